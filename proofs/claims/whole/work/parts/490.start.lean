/-! THE CLAIM OUT OF ONE WALK OF THE LAW'S BODY. Your part is whole_start (and what it stands on); all else here is the same for every law, but numbers. -/
def R_law : String := "RegisterGatewayLaw"
def lw_P (b : Addr) (xs : List Int32) (args : Array Value) (s : State) : Prop := args = #[.ref b] ∧ s.IntsAt b xs ∧ xs.length ≤ 2560 ∧ (Jvm.Cond.and given_1 narrow_1).before args s = true
def lw_Q (_ : Array Value) (s : State) (o : Outcome) (t : State) : Prop := o = .returned (some (.int 1)) ∧ Framed s o t [] room_1.cells room_1.slots
def lw_Z (below : List Frame) (a : Array Value) (s : State) : State → Prop := fun t => ∃ o, t.status = .running ∧ Ended t below o ∧ lw_Q a s o t
/-- the law's own end, with 1 on the stack, nothing written that was there before, its room as the claim has it -/
theorem lw_ret {p : Program} {l : Launch} {e : Env} {s : State} {m : MethodId} {below : List Frame} {meth : Method} {c : Code} {b : Nat} (hx : p.tables.exec = Jvm.exec) (hb : c.code = code) (hr : meth.sig.returnType = ret) (hlocks : meth.locks = false) {pc : Nat} {H : Heap} {ls : Array Slot} (hdg : decode code pc = .ok (.ireturn, 1)) : W p l e room_1 s m #[Value.ref b] below meth c H [] room_1.cells room_1.slots (lw_Z below #[Value.ref b] s) (F0 m pc ls [.int 1]) := by
  intro T hT X
  obtain ⟨fs, hret, hrun, hended, hW, hframe⟩ := X.leave (v := some (.int 1)) (hlocks := hlocks) (fun h => by rw [hr] at h; cases h)
  have hmeth' : T.vm.method? m = some meth := X.method'
  refine ⟨T.setFrames fs, ?_, .returned (some (.int 1)), hrun, hended, rfl, ⟨_, rfl⟩, hW, hframe⟩
  jvm_step X.here [X.here.top, hx, hb, hdg, hmeth', hr, ret, narrow_b1]
  (try refine ⟨rfl, ?_⟩); (try refine ⟨rfl, ?_⟩)
  first | (intro acts; rw [hret _ acts rfl rfl rfl]) | rw [hret _ _ rfl rfl rfl]
  exact Steps.refl _
/-- what holds at the law's entry: the machine, the code, the tables' words (any of lw_tbl by 'hts w (by decide +kernel)'), the script of L ints xs at the cell b, what the Statement gives of the start (any of its parts by flat_of_before) -/
def lw_At (p : Program) (s : State) (m : MethodId) (meth : Method) (c : Code) (b L : Nat) (xs : Nat → Int32) : Prop :=
  p.tables.exec = Jvm.exec ∧ c.code = code ∧ meth.sig.returnType = ret ∧ c.maxLocals = 7 ∧ s.vm.findClass R_law = some m.cls ∧ (∀ w ∈ lw_tbl, w.before #[Value.ref b] s = true) ∧ va_X b L xs s s.heap ∧ b < s.heap.size ∧ meth.locks = false ∧ (Jvm.Cond.and given_1 narrow_1).before #[Value.ref b] s = true

theorem cw_all : ∀ ci, ci < 12 → CW ci := by
  intro ci h
  rcases (show ci = 0 ∨ ci = 1 ∨ ci = 2 ∨ ci = 3 ∨ ci = 4 ∨ ci = 5 ∨ ci = 6 ∨ ci = 7 ∨ ci = 8 ∨ ci = 9 ∨ ci = 10 ∨ ci = 11 by omega) with rfl | rfl | rfl | rfl | rfl | rfl | rfl | rfl | rfl | rfl | rfl | rfl
  · exact cw_0
  · exact cw_1
  · exact cw_2
  · exact cw_3
  · exact cw_4
  · exact cw_5
  · exact cw_6
  · exact cw_7
  · exact cw_8
  · exact cw_9
  · exact cw_10
  · exact cw_11

theorem st_known {args : Array Value} {s : State} (hts : ∀ w ∈ gtbl, w.before args s = true) : ∃ D : va_G, ∀ (c : Nat) (q : vw_C), vwCl[c]? = some q → u_Kn s q.1 q.2.1 q.2.2 (D.1 c) (D.2 c) := by
  have h : ∀ c : Nat, ∃ z : ClassId × (Nat → Nat), ∀ q : vw_C, vwCl[c]? = some q → u_Kn s q.1 q.2.1 q.2.2 z.1 z.2 := by
    intro c
    by_cases hc : c < 12
    · obtain ⟨Cn, T, N, ty, hq, hin, -, -, hins, -⟩ := cw_all c hc
      obtain ⟨cC, iS, hK⟩ := u_known (C := Cn) (T := T) (N := N) (n := N) hts hin (hts _ hins)
      refine ⟨(cC, iS), fun q h => ?_⟩
      cases Option.some.inj (hq.symm.trans h)
      exact hK
    · refine ⟨(0, fun _ => 0), fun q h => ?_⟩
      have h9 : c < vwCl.length := (List.getElem?_eq_some_iff.mp h).1
      exact absurd h9 (by simpa using hc)
  exact ⟨(fun c => (Classical.choose (h c)).1, fun c => (Classical.choose (h c)).2), fun c q hq => Classical.choose_spec (h c) q hq⟩
def nrw : List Cond := flatC (Jvm.Cond.and given_1 narrow_1)
set_option maxRecDepth 100000 in
theorem sr_ok : lw_tbl.all (fun w => match w with
  | .stringRef own k _ => decide (Cond.exactly (.string own k) "java/lang/String" ∈ nrw)
  | _ => true) = true := by decide +kernel
theorem st_str {args : Array Value} {s : State} (hts : ∀ w ∈ lw_tbl, w.before args s = true) (hn : ∀ w ∈ nrw, w.before args s = true) (own : String) (k : Nat) (tx : String) (hm : Cond.stringRef own k tx ∈ lw_tbl) : ∃ sa, vk_R own k tx sa s := by
  have h := List.all_eq_true.mp sr_ok _ hm
  have h2 := hn _ (of_decide_eq_true h)
  obtain ⟨a, c, cell, k9, ht, -⟩ := Cond.exactly_spec h2
  have hv : (Term.string own k).eval #[] s none [] s = some (.ref a) := by rw [← ht]; rfl
  refine ⟨a, ?_, hv⟩
  have h3 := hts _ hm
  first
    | exact va_tabs rfl rfl h3
    | exact h3
theorem st_arrI {args : Array Value} {s : State} {ty : FieldType} (hty : refKind ty = false) (h : (Cond.arrayClass ty).before args s = true) : ∃ cA : ClassId, ArrOfT s cA ty ∧ s.vm.findClass ("[" ++ ty.toString) = some cA := by
  obtain ⟨c, k, comp, h1, h2, h3⟩ := Cond.arrayClass_spec h
  exact ⟨c, fun n z => ⟨fun k h => (by cases h), k, h2, comp, h3⟩, h1⟩
theorem st_arrO {s : State} {C : String} (h : va_AO C s) : ∃ cA : ClassId, ArrOfT s cA (.object C) ∧ va_RA s cA (.object C) := by
  obtain ⟨comp, c, k, h1, h2, h3, h4, h5⟩ := Cond.arrayOver_spec h
  exact ⟨c, fun n z => ⟨fun k h => (by cases h), k, h3, comp, h4⟩, k, comp, h3, h4, h1, h5⟩
theorem five {P : Nat → Prop} (h0 : P 0) (h1 : P 1) (h2 : P 2) (h3 : P 3) (h4 : P 4) : ∀ j, j < 5 → P j := by
  intro j hj
  rcases (show j = 0 ∨ j = 1 ∨ j = 2 ∨ j = 3 ∨ j = 4 by omega) with rfl | rfl | rfl | rfl | rfl <;> assumption
set_option maxRecDepth 100000 in
/-- THE CLAIM'S CONSTANTS out of the start -/
theorem st_KF {p : Program} {s : State} {m : MethodId} {meth : Method} {c : Code} {b L : Nat} {xs : Nat → Int32} (C0 : lw_At p s m meth c b L xs) : ∃ X : Xt, KF X s ∧ xN X = s.heap.size ∧ xH X = s.heap ∧ xC X = s.heap.size + room_1.cells ∧ xS X = hU s.heap + room_1.slots ∧ xde X < s.heap.size := by
  obtain ⟨hx, hb, hr, hml, hown, hts, hX, hbl, hlocks, hgv⟩ := C0
  have hn : ∀ w ∈ nrw, w.before #[Value.ref b] s = true := flat_of_before _ hgv
  have htg : ∀ w ∈ gtbl, w.before #[Value.ref b] s = true := fun w hw => hts w (List.mem_filter.mp hw).1
  obtain ⟨D, hD⟩ := st_known htg
  obtain ⟨cI, hI1, hI2⟩ := st_arrI (ty := .int) rfl (hts (.arrayClass .int) (List.mem_of_getElem? (i := 137) (by decide +kernel)))
  obtain ⟨cJ, hJ1, hJ2⟩ := st_arrI (ty := .long) rfl (hts (.arrayClass .long) (List.mem_of_getElem? (i := 1536) (by decide +kernel)))
  have aO : va_AO "java/lang/Object" s := va_AO.of (hts (.arrayOver (.object "java/lang/Object")) (List.mem_of_getElem? (i := 541) (by decide +kernel)))
  have aD : va_AO "RegisterGateway$Device" s := va_AO.of (hts (.arrayOver (.object "RegisterGateway$Device")) (List.mem_of_getElem? (i := 103) (by decide +kernel)))
  obtain ⟨cO, hO1, hO2⟩ := st_arrO aO
  obtain ⟨cV, hV1, hV2⟩ := st_arrO aD
  have hA : ∀ a : Nat, a < s.heap.size → ¬ (fun q : Nat => s.heap.size ≤ q) a := fun a h => Nat.not_le.mpr h
  obtain ⟨de, hde, hT0⟩ := va_Tof (A := fun q : Nat => s.heap.size ≤ q) (tm := .static "java/util/ArrayList" "DEFAULTCAPACITY_EMPTY_ELEMENTDATA" "[Ljava/lang/Object;") (ty := .object "java/lang/Object") (N := 0) (f := fun _ => .null) (by decide) (hn _ (by decide +kernel)) (va_eqt (hn _ (by decide +kernel))) (fun j hj => absurd hj (Nat.not_lt_zero j)) hA
  obtain ⟨s0, hs0, hT1⟩ := va_Tof (A := fun q : Nat => s.heap.size ≤ q) (tm := .static "RegisterGateway" "LEAST_SETTING" "[I") (ty := .int) (N := 5) (f := fun j => .int (lst0 j)) (by decide) (hn _ (by decide +kernel)) (va_eqt (hn _ (by decide +kernel))) (five (va_eqt (hn _ (by decide +kernel))) (va_eqt (hn _ (by decide +kernel))) (va_eqt (hn _ (by decide +kernel))) (va_eqt (hn _ (by decide +kernel))) (va_eqt (hn _ (by decide +kernel)))) hA
  obtain ⟨s1, hs1, hT2⟩ := va_Tof (A := fun q : Nat => s.heap.size ≤ q) (tm := .static "RegisterGateway" "GREATEST_SETTING" "[I") (ty := .int) (N := 5) (f := fun j => .int (lst1 j)) (by decide) (hn _ (by decide +kernel)) (va_eqt (hn _ (by decide +kernel))) (five (va_eqt (hn _ (by decide +kernel))) (va_eqt (hn _ (by decide +kernel))) (va_eqt (hn _ (by decide +kernel))) (va_eqt (hn _ (by decide +kernel))) (va_eqt (hn _ (by decide +kernel)))) hA
  have z0 := va_Zref (C := RJx4a65c) (hts (.laysStatic RJx4a65c "DEFAULTCAPACITY_EMPTY_ELEMENTDATA" "[Ljava/lang/Object;") (by decide +kernel)) (hts (.initialized RJx4a65c) (by decide +kernel)) hde hA
  have z1 := va_Zref (C := RX9) (hts (.laysStatic RX9 "LEAST_SETTING" "[I") (by decide +kernel)) (hts (.initialized RX9) (by decide +kernel)) hs0 hA
  have z2 := va_Zref (C := RX9) (hts (.laysStatic RX9 "GREATEST_SETTING" "[I") (by decide +kernel)) (hts (.initialized RX9) (by decide +kernel)) hs1 hA
  have y0 := vx_Zqof (C := Bundle.tN) (n := "UNASSIGNED_STACK") (d := Bundle.steD) (hts _ (by decide +kernel)) (hts _ (by decide +kernel)) (hn _ (by decide +kernel)) hA
  have y1 := vx_Zqof (C := Bundle.tN) (n := "SUPPRESSED_SENTINEL") (d := Bundle.listD) (hts _ (by decide +kernel)) (hts _ (by decide +kernel)) (hn _ (by decide +kernel)) hA
  obtain ⟨mi, hmi⟩ := va_Mi.of (hn (.isRef (.mirror "[Ljava/lang/Object;")) (by decide +kernel))
  have hDc : va_Dc s := va_Dc.of (hts (.declares ⟨"java/lang/Object", "getClass", "()Ljava/lang/Class;"⟩) (by decide +kernel))
  have n1 := va_Nc.of (hn (.not (.castable "java/lang/IllegalArgumentException" "java/lang/IndexOutOfBoundsException")) (by decide +kernel))
  have n2 := va_Nc.of (hn (.not (.castable "java/lang/IllegalStateException" "java/lang/IndexOutOfBoundsException")) (by decide +kernel))
  have n3 := va_Nc.of (hn (.not (.castable "java/lang/IllegalStateException" "java/lang/IllegalArgumentException")) (by decide +kernel))
  have hdl : de < s.heap.size := by
    obtain ⟨cell, h1, -⟩ := hT0
    exact (Array.getElem?_eq_some_iff.mp h1).1
  refine ⟨(D, (cI, cO, cV, cJ), (s.heap.size, s.heap), (s.heap.size + room_1.cells, hU s.heap + room_1.slots), (de, s0, s1, mi)), ⟨⟨hD, fun k q hk => ?_⟩, fun w hw hk => va_Nw.of (nkw_on hk) (hts w hw), st_str hts hn, ⟨aO, aD⟩, ⟨z0, hT0⟩, ⟨z1, hT1⟩, ⟨z2, hT2⟩, ⟨y0, y1⟩, ⟨hmi, hDc⟩, ⟨n1, n2, n3⟩, rfl⟩, rfl, rfl, rfl, rfl, hdl⟩
  match k, hk with
  | 0, hk => cases hk; exact ⟨hI1, hI2⟩
  | 1, hk => cases hk; exact ⟨hO1, hO2⟩
  | 2, hk => cases hk; exact ⟨hV1, hV2⟩
  | 3, hk => cases hk; exact ⟨hJ1, hJ2⟩
  | k + 4, hk => cases hk
set_option maxHeartbeats 4000000 in
/-- THE LAW, from its entry -/
theorem whole_start {p : Program} {e : Env} {s : State} {m : MethodId} {below : List Frame} {meth : Method} {c : Code} (l : Launch) (hflags : l.flags = flags0) {b L : Nat} {xs : Nat → Int32} (hL : L ≤ 2560) (C0 : lw_At p s m meth c b L xs) : W p l e room_1 s m #[Value.ref b] below meth c s.heap [] 0 0 (lw_Z below #[Value.ref b] s) (entryFrame m ([Value.ref b] : List Value).toArray 7) := by
  obtain ⟨X, hKF, e1, e2, e3, e4, e5⟩ := st_KF C0
  obtain ⟨hx, hb, hr, hml, hown, hts, hX, hbl, hlocks, hgv⟩ := C0
  have hfl : l.stackTraces = false := by unfold Launch.stackTraces; rw [hflags]; decide +kernel
  have hc : hC X (g0 s.heap.size (hU s.heap) (xde X)) s.heap := by
    refine ⟨fun a => ?_, rfl, rfl, fun q _ => by rw [e2], by rw [e1]; exact Nat.le_refl _, by rw [e3]; exact Nat.le_add_right _ _, by rw [e4]; exact Nat.le_add_right _ _⟩
    unfold hE
    by_cases h : a = xde X
    · rw [show gT (g0 s.heap.size (hU s.heap) (xde X)) a = (6, 0) from if_pos h]; exact ⟨h, rfl⟩
    · rw [show gT (g0 s.heap.size (hU s.heap) (xde X)) a = (0, 0) from if_neg h]; trivial
  have hCx : Cx X (p, l, e, room_1, s, m, #[Value.ref b], below, meth, c) cL_law 7 RL 15 590 := ⟨hx, hb, hml, hown, fun w hw => hts w (List.mem_filter.mp hw).1, hKF, hlocks, hfl, rfl, rfl, by rw [e3]; show room_1.cells = s.heap.size + room_1.cells - s.heap.size; omega, by rw [e4]; show room_1.slots = hU s.heap + room_1.slots - hU s.heap; omega⟩
  have hret : ∀ (v : Int32) (G : Gt) (pc : Nat) (lv : List (Option Value)), v = 1 → decode cL_law pc = .ok (.ireturn, 1) → WM X (p, l, e, room_1, s, m, #[Value.ref b], below, meth, c) (lw_Z below #[Value.ref b] s) G pc lv [.int v] := by
    intro v G pc lv hv hd
    subst hv
    intro H locs ls h hl
    have h6 := h.1.2.2.2.2.2.1
    have h7 := h.1.2.2.2.2.2.2
    rw [e3] at h6
    rw [e4] at h7
    have q1 : gH G - s.heap.size ≤ room_1.cells := by omega
    have q2 : gU G - hU s.heap ≤ room_1.slots := by omega
    exact va_forget (fun q hq => by have := h.2.1 q hq; rw [e1] at this; exact this) (W.widen q1 q2 (lw_ret hx hb hr hlocks hd))
  have hB : BL X (p, l, e, room_1, s, m, #[Value.ref b], below, meth, c) l b L xs (fun r _ => r = 1) (lw_Z below #[Value.ref b] s) := ⟨rfl, hCx, ⟨by rw [e2]; exact hX, by rw [e1]; exact hbl⟩, hfl, hret⟩
  have hw := mL_law hB (pure_law X s.heap.size (hU s.heap) e5 (by rw [e3]; exact Nat.add_le_add_left (show 10000 ≤ room_1.cells from Nat.le_of_ble_eq_true rfl) _) (by rw [e4]; exact Nat.add_le_add_left (show 200000 ≤ room_1.slots from Nat.le_of_ble_eq_true rfl) _) b L xs hL)
  have hl := lv_entry ([.ref b]) (n := 7) (Nat.le_of_ble_eq_true rfl)
  rw [lg_entry_eq]
  have z := hw s.heap [] _ ⟨hc, (fun _ h => by cases h), Nat.le_refl _, Nat.le_refl _⟩ (lh_of hl rfl rfl)
  have q3 : gH (g0 s.heap.size (hU s.heap) (xde X)) - s.heap.size = 0 := Nat.sub_self _
  have q4 : gU (g0 s.heap.size (hU s.heap) (xde X)) - hU s.heap = 0 := Nat.sub_self _
  have z2 : kW (p, l, e, room_1, s, m, #[Value.ref b], below, meth, c) s.heap [] (gH (g0 s.heap.size (hU s.heap) (xde X)) - s.heap.size) (gU (g0 s.heap.size (hU s.heap) (xde X)) - hU s.heap) (lw_Z below #[Value.ref b] s) (F0 m 0 _ []) := z
  rw [q3, q4] at z2
  exact z2
-- ===== YOUR PART ENDS =====
set_option maxHeartbeats 4000000 in
theorem lw_walk (l : Launch) (hflags : l.flags = flags0) (b : Addr) (xs : List Int32) : MetFree l x (headSpec (Jvm.Cond.code x code maxLocals ret :: tables_1) room_1) (lw_P b xs) (fun _ _ _ _ _ => True) lw_Q := by
  refine MetFree.of_bodyS (code := code) (maxLocals := maxLocals) (ret := ret) (by decide) ?_ ?_
  · intro args s m h hn
    obtain ⟨meth, c, h1, h2, h3, h4, h5, h6, -, -⟩ := Cond.code_spec hn (atoms_spec (ws := Jvm.Cond.code x code maxLocals ret :: tables_1) h _ List.mem_cons_self)
    exact ⟨meth, c, h1, h2, h3, h4, h5, h6⟩
  · intro p e s m args below meth c s₁ B hml0 hP _
    obtain ⟨rfl, hx, hbd, hgv⟩ := hP
    obtain ⟨scr, harrAt, hlist, hof, hsmall⟩ := hx
    obtain ⟨hcb, hkn, -, -⟩ := State.arrayAt?_spec harrAt
    have hown : s.vm.findClass R_law = some m.cls := findClass_of_methodNamed B.named
    have hts0 : ∀ c ∈ (Jvm.Cond.code x code maxLocals ret :: tables_1), c.before #[Value.ref b] s = true := atoms_spec (ws := Jvm.Cond.code x code maxLocals ret :: tables_1) B.pre
    have hts : ∀ w ∈ lw_tbl, w.before #[Value.ref b] s = true := k2_hts_sels lw_privs (fun w hw => hts0 w (List.mem_cons_of_mem _ hw)) lw_privs_ok
    have hml : c.maxLocals = 7 := B.maxLocals_eq (hts0 _ List.mem_cons_self)
    have X₀ : Stand p l e room_1 s m #[Value.ref b] below meth c s₁ [] 0 0 := Stand.of_body B
    have hh0 : s₁.heap = s.heap := by rw [B.state]; rfl
    have hsz : scr.slots.size = xs.length := by rw [← Array.length_toList, hlist, List.length_map]
    have hval : ∀ j : Nat, j < xs.length → scr.slots[j]? = some (.int (xs.getD j 0)) := fun j hj => by
      rw [← Array.getElem?_toList, hlist]
      simp [hj]
    have hbl : b < s.heap.size := (Array.getElem?_eq_some_iff.mp hcb).1
    have hX : va_X b xs.length (fun j => xs.getD j 0) s s.heap := ⟨scr, hcb, hof, hkn, hsz, hval⟩
    have K : W p l e room_1 s m #[Value.ref b] below meth c s₁.heap [] 0 0 (lw_Z below #[Value.ref b] s) (entryFrame m ([Value.ref b] : List Value).toArray 7) := by
      rw [hh0]
      exact whole_start l hflags hbd ⟨B.exec, B.bytes, B.returns, hml, hown, hts, hX, hbl, B.notSynchronized, hgv⟩
    obtain ⟨t, a1, o, b1, b2, b3⟩ := K s₁ rfl X₀
    exact ⟨t, o, a1, b1, b2, b3⟩
theorem lw_pre_spec {args : Array Value} {s : State} (h : (Jvm.Cond.and given_1 narrow_1).before args s = true) (hr : rest_1_c.before args s = true) : ∃ (b : Addr) (xs : List Int32), lw_P b xs args s := by
  have hs := flat_of_before _ h
  have hq := flat_of_before _ hr
  have hc : (Cond.count 1).before args s = true := hs _ (by decide +kernel)
  have harr : (Cond.arrayOf (.arg 0) .int).before args s = true := hs _ (by decide +kernel)
  have hle : (Cond.le (.length (.arg 0)) (.int 2560)).before args s = true := hs _ (by decide +kernel)
  have hlen : (Cond.isInt (.length (.arg 0))).before args s = true := hq _ (by decide +kernel)
  have hall : (Cond.all (.arg 0) (.isInt (.elem (.arg 0) (.index 0)))).before args s = true := hq _ (by decide +kernel)
  obtain ⟨b, xs, hb, hx⟩ := State.ints_of_pre rfl harr hlen hall
  have hsm : xs.length < 2 ^ 31 := hx.choose_spec.2.2.2
  have hev : (Term.length (.arg 0)).eval args s none [] s = some (.int xs.length.toInt32) := hx.length_eval hb
  have hv := Cond.le_ints hev (show (Term.int 2560).eval args s none [] s = some (.int 2560) from rfl)
  have hd : xs.length.toInt32 ≤ 2560 := by
    simpa [Cond.before, Cond.holds, hv] using hle
  have hN : xs.length ≤ 2560 := (Int32.ofNat_le_ofNat hsm (by decide)).mp (show Int32.ofNat xs.length ≤ Int32.ofNat 2560 from hd)
  exact ⟨b, xs, Cond.one_arg hc (show args[0]? = some (.ref b) from hb), hx, hN, h⟩
theorem lw_comes (l : Launch) (hflags : l.flags = flags0) : Comes l x (Jvm.Cond.code x code maxLocals ret :: tables_1) room_1 (fun tb e args s => Calls_1 tb e args s ∧ rest_1 tb e args s ∧ Pre_1 tb e args s)
    (fun _ _ args s o t => lw_Q args s o t) := by
  intro p e ha hc hk s m args below hf hfit hheap happ hpre
  obtain ⟨b, xs, hP⟩ := lw_pre_spec hpre.2.2 hpre.2.1
  obtain ⟨k, o, h1, h2, h3, hQ⟩ := lw_walk l hflags b xs p e ha hc hk s m args below hf ((Spec.applies_iff_loose hf).mp happ).1 hP trivial
  exact ⟨k, o, h1, h2, h3, hQ⟩
theorem lw_frame {s t : State} {o : Outcome} {args : Array Value} (h : Framed s o t [] room_1.cells room_1.slots) :
    Framed s o t (fieldLocs frame_1_writes args s ++ arrayLocs frame_1_arrays args s ++ staticLocs frame_1_statics s) room_1.cells room_1.slots := h
theorem lw_limb (L : Cond) (hL : ∀ (args : Array Value) (s t : State), L.after args s (.returned (some (.int 1))) t = true) :
    ArmFor flags0 classFile x code maxLocals ret World_1 tables_1 room_1 Calls_1 rest_1 Pre_1
      (fun tb e a s o t => postC L tb e a s o t ∧ Framed s o t (fieldLocs frame_1_writes a s ++ arrayLocs frame_1_arrays a s ++ staticLocs frame_1_statics s) room_1.cells room_1.slots) := by
  intro l hflags _ _ p e ha hc hk s m args below hf hfit hheap happ hpre
  obtain ⟨k, o, h1, h2, h3, rfl, hF⟩ := lw_comes l hflags p e ha hc hk s m args below hf hfit hheap happ hpre
  exact ⟨k, _, h1, h2, h3, hL args s _, lw_frame hF⟩
theorem i_vc : Claimed_1_1 ∧ Claimed_1_2 := ⟨lw_limb limb_1_1 (fun args s t => by simp [limb_1_1, Cond.after, Cond.holds, Cond.value]), lw_limb limb_1_2 (fun args s t => Cond.after_iff.mpr (by
  first | (rw [show limb_1_2 = Cond.eq .result (.int 1) from rfl, Cond.eq_ints (x := 1) (y := 1) rfl rfl]; simp; done) | (simp [limb_1_2, Cond.value, Term.eval]; done)))⟩
