/-! ===== calls, ends, new cells ===== -/
section GX
variable {p : Program} {l : Launch} {e : Env} {R : Room} {s : State} {m : MethodId} {args : Array Value} {below : List Frame} {meth : Method} {c : Code} {T : State} {locs : List Loc} {cells slots : Nat}
theorem gx_used (X : Stand p l e R s m args below meth c T locs cells slots) : hU T.heap = hU s.heap + ((T.heap.toList.drop s.heap.size).map (·.slots.size)).sum ∧ s.heap.size ≤ T.heap.size := by
  have b1 : T.slotsUsed = hU T.heap := by
    have h := X.book
    unfold State.slotsTrue at h
    exact eq_of_beq h
  have b0 : s.slotsUsed = hU s.heap := by
    have h := X.room
    simp only [State.hasRoom, Bool.and_eq_true] at h
    have h2 := h.2
    unfold State.slotsTrue at h2
    exact eq_of_beq h2
  have h4 : T.slotsUsed = s.slotsUsed + ((T.heap.toList.drop s.heap.size).map (·.slots.size)).sum := X.same.2.2.2.1
  exact ⟨by rw [← b1, ← b0]; exact h4, X.same.2.1⟩
theorem gx_tight (X : Stand p l e R s m args below meth c T locs cells slots) {k n : Nat} (hk : T.heap.size ≤ s.heap.size + k) (hn : hU T.heap ≤ hU s.heap + n) : Stand p l e R s m args below meth c T locs k n :=
  { X with same := ⟨X.same.1, X.same.2.1, hk, X.same.2.2.2.1, by
      have h := (gx_used X).1
      have h2 : ((T.heap.toList.drop s.heap.size).map (·.slots.size)).sum ≤ n := by omega
      exact h2, X.same.2.2.2.2.2⟩ }
end GX
/-- where a call has thrown: an exception of class E goes up from pc -/
def XM (X : Xt) (K : Kt) (Q : State → Prop) (G : Gt) (pc : Nat) (lv : List (Option Value)) (st : List Value) (E : String) : Prop :=
  ∀ (H : Heap) (locs : List Loc) (ls : Array Slot) (q : Addr) (ce : Cell), hM X K G H locs → lh ls lv → H[q]? = some ce → ce.vm = .none → (kS K).vm.findClass E = some ce.cls → kV K H locs (gH G - (kS K).heap.size) (gU G - hU (kS K).heap) Q (F0 (kM K) pc ls st) q
def qR (X : Xt) (Pr : Option Value → Gt → Prop) : Array Value → State → Outcome → State → Prop := fun _ _ o t => ∃ (v : Option Value) (G' : Gt), o = .returned v ∧ Pr v G' ∧ hC X G' t.heap
def qX (X : Xt) (Px : String → Gt → Prop) : String → State → State → Prop := fun E _ t => ∃ G' : Gt, Px E G' ∧ hC X G' t.heap
def qP (X : Xt) (as : List Value) (G : Gt) : Array Value → State → Prop := va_Pc as (fun U => hC X G U.heap ∧ KF X U)
def rmM (X : Xt) (G : Gt) (fr lo : Nat) : Room := { frames := fr, cells := xC X - gH G, slots := xS X - gU G, locals := lo }
/-- a method's contract over the pure heap: it returns with Pr, or throws with Px -/
def Mc (X : Xt) (l : Launch) (y : MethodName) (hd : Cond) (fr lo : Nat) (as : List Value) (G : Gt) (Pr : Option Value → Gt → Prop) (Px : String → Gt → Prop) : Prop :=
  vx_Met l y (hd :: gtbl) (rmM X G fr lo) (qP X as G) (qR X Pr) (qX X Px) (xC X - gH G) (xS X - gU G) (xA X)
def QM (X : Xt) (K : Kt) (G0 : Gt) (Pr : Option Value → Gt → Prop) (Px : String → Gt → Prop) : State → Prop := vx_MQ (kB K) (qR X Pr) (qX X Px) (kA K) (kS K) (xC X - gH G0) (xS X - gU G0) (xA X)
/-- at a body's entry -/
def EB (X : Xt) (K : Kt) (G0 : Gt) : Prop := hC X G0 (kS K).heap
theorem lh_of {ls : Array Slot} {lv : List (Option Value)} {n : Nat} {L : List (Nat × Value)} (h : lv_has ls n L) (hn : lv.length = n) (hl : lvp 0 lv = L) : lh ls lv := by subst hn; subst hl; exact h
theorem Mc.of {X : Xt} {l : Launch} {y : MethodName} {cc : ByteArray} {maxL fr lo : Nat} {ret : Option FieldType} {as : List Value} {G : Gt} {Pr : Option Value → Gt → Prop} {Px : String → Gt → Prop} (hy : plainName y.cls = true) (hfl : l.stackTraces = false) (lv0 : List (Option Value)) (hn : lv0.length = maxL) (hs : (lg_sl as).length ≤ maxL) (hv : lvp 0 lv0 = lv_args 0 as)
    (body : ∀ K : Kt, kL K = l → Cx X K cc maxL y.cls fr lo → EB X K G → (kT K).sig.returnType = ret → (kT K).name = y.name → (∀ x ∈ (kC K).exceptionTable.toList, False) → WM X K (QM X K G Pr Px) G 0 lv0 []) : Mc X l y (.code y cc maxL ret) fr lo as G Pr Px := by
  refine vx_ofW (cc := cc) (maxL := maxL) (ret := ret) hy rfl ?_
  intro p e s m args below meth c s₁ B hml hex hv9
  obtain ⟨rfl, hc, hKF⟩ := hv9
  have hts := atoms_spec (ws := Cond.code y cc maxL ret :: gtbl) B.pre
  have hown : s.vm.findClass y.cls = some m.cls := findClass_of_methodNamed B.named
  have hC9 : Cx X (p, l, e, rmM X G fr lo, s, m, as.toArray, below, meth, c) cc maxL y.cls fr lo := ⟨B.exec, B.bytes, hml, hown, fun w hw => hts w (List.mem_cons_of_mem _ hw), hKF, B.notSynchronized, hfl, rfl, rfl, by show xC X - gH G = xC X - s.heap.size; rw [hc.2.1], by show xS X - gU G = xS X - hU s.heap; rw [hc.2.2.1]⟩
  have hE9 : EB X (p, l, e, rmM X G fr lo, s, m, as.toArray, below, meth, c) G := hc
  have hb := body (p, l, e, rmM X G fr lo, s, m, as.toArray, below, meth, c) rfl hC9 hE9 B.returns (name_of_methodNamed B.named B.method).1 hex
  have hl := lv_entry as (n := maxL) hs
  rw [lg_entry_eq]
  have z := hb s.heap [] _ ⟨hc, (fun _ h => by cases h), Nat.le_of_eq hc.2.1, Nat.le_of_eq hc.2.2.1⟩ (lh_of hl hn hv)
  have e1 : gH G - s.heap.size = 0 := by rw [hc.2.1]; exact Nat.sub_self _
  have e2 : gU G - hU s.heap = 0 := by rw [hc.2.2.1]; exact Nat.sub_self _
  have z2 : kW (p, l, e, rmM X G fr lo, s, m, as.toArray, below, meth, c) s.heap [] (gH G - s.heap.size) (gU G - hU s.heap) (QM X (p, l, e, rmM X G fr lo, s, m, as.toArray, below, meth, c) G Pr Px) (F0 m 0 _ []) := z
  rw [e1, e2] at z2
  exact z2
section CALLS
variable {X : Xt} {K : Kt} {Q : State → Prop} {G : Gt} {pc : Nat} {lv : List (Option Value)} {st : List Value} {cc : ByteArray} {nL : Nat} {own : String} {fr lo : Nat}
theorem blindP {as : List Value} : FrameBlind (qP X as G) := fun _ U _ _ q => ⟨q.1, q.2.1, KF.warm (s := U) (State.WarmedH.refl U) q.2.2⟩
theorem room_ok (C : Cx X K cc nL own fr lo) {H : Heap} {locs : List Loc} (h : hM X K G H locs) : gH G - (kS K).heap.size + (xC X - gH G) ≤ (kR K).cells ∧ gU G - hU (kS K).heap + (xS X - gU G) ≤ (kR K).slots := by
  obtain ⟨-, -, -, -, -, -, -, -, -, -, h1, h2⟩ := C
  obtain ⟨⟨-, -, -, -, -, g1, g2⟩, -, g3, g4⟩ := h
  rw [h1, h2]
  omega
theorem r_run {Pr : Option Value → Gt → Prop} {Px : String → Gt → Prop} {st0 : List Value} {a : Array Value} (hr : ∀ (H : Heap) (locs : List Loc) (ls : Array Slot), hM X K G H locs → lh ls lv → vx_Run (kP K) (kL K) (kE K) (kR K) (kS K) (kM K) (kA K) (kB K) (kT K) (kC K) H locs (gH G - (kS K).heap.size) (gU G - hU (kS K).heap) (xC X - gH G) (xS X - gU G) (F0 (kM K) pc ls st0) st (qR X Pr a) (qX X Px) (xA X))
    (kr : ∀ v G', Pr v G' → WM X K Q G' (pc + 3) lv (v.toList ++ st)) (kx : ∀ E G', Px E G' → XM X K Q G' pc lv st E) : WM X K Q G pc lv st0 := by
  intro H locs ls h hl T hT Y
  rcases hr H locs ls h hl T hT Y with ⟨v, st₀, t, T', L, h0, Y', hL, e1, e2, ⟨v9, G', hv, hp, hc⟩, stp⟩ | ⟨q, st₀, t, T', L, E, ce, h0, Y', hL, e1, e2, ⟨G', hp, hc⟩, hce, hcv, hcl, stp⟩
  · cases hv
    have hc' : hC X G' T'.heap := by rw [e1]; exact hc
    obtain ⟨u1, u2⟩ := gx_used Y'
    have hs1 : (kS K).heap.size ≤ gH G' := by rw [← hc'.2.1]; exact u2
    have hs2 : hU (kS K).heap ≤ gU G' := by rw [← hc'.2.2.1]; omega
    have Y2 := gx_tight Y' (k := gH G' - (kS K).heap.size) (n := gU G' - hU (kS K).heap) (by rw [hc'.2.1]; omega) (by rw [hc'.2.2.1]; omega)
    obtain ⟨t2, a1, b1⟩ := kr v G' hp T'.heap (locs ++ L) ls ⟨hc', fun z hz => (List.mem_append.mp hz).elim (h.2.1 z) (hL z), hs1, hs2⟩ hl T' rfl Y2
    exact ⟨t2, stp t2 a1, b1⟩
  · have hc' : hC X G' T'.heap := by rw [e1]; exact hc
    obtain ⟨u1, u2⟩ := gx_used Y'
    have hs1 : (kS K).heap.size ≤ gH G' := by rw [← hc'.2.1]; exact u2
    have hs2 : hU (kS K).heap ≤ gU G' := by rw [← hc'.2.2.1]; omega
    have Y2 := gx_tight Y' (k := gH G' - (kS K).heap.size) (n := gU G' - hU (kS K).heap) (by rw [hc'.2.1]; omega) (by rw [hc'.2.2.1]; omega)
    obtain ⟨t2, a1, b1⟩ := kx E G' hp T'.heap (locs ++ L) ls q ce ⟨hc', fun z hz => (List.mem_append.mp hz).elim (h.2.1 z) (hL z), hs1, hs2⟩ hl (by rw [e1]; exact hce) hcv hcl T' rfl Y2
    exact ⟨t2, stp.trans a1, b1⟩
theorem good_ws {w : Cond} (h : w ∈ gtbl) : GoodIn gtbl (w :: gtbl) := fun z hz => by
  rcases List.mem_cons.mp hz with e | e
  · rw [e]; exact ⟨h, good_of_word (gtbl_good h)⟩
  · exact ⟨e, good_of_word (gtbl_good e)⟩
theorem good_c {w : Cond} {L : List Cond} (h : w ∈ gtbl) (hL : GoodIn gtbl L) : GoodIn gtbl (w :: L) := fun z hz => by
  rcases List.mem_cons.mp hz with e | e
  · rw [e]; exact ⟨h, good_of_word (gtbl_good h)⟩
  · exact hL z e
/-- the words of a call -/
def YW (y : MethodName) (bytes : ByteArray) (maxL : Nat) (ret : Option FieldType) (n : Nat) : Prop := Cond.code y bytes maxL ret ∈ gtbl ∧ Cond.initialized y.cls ∈ gtbl ∧ y.cls ≠ "java/lang/invoke/MethodHandle" ∧ y.cls ≠ "java/lang/invoke/VarHandle" ∧ (parseMethodDescriptor y.desc).map (fun d => d.parameters.length) = some n
def VW (own : String) (index : Nat) (y : MethodName) : Prop := Cond.methodLink own index y ∈ gtbl ∧ Cond.instanceMethod y ∈ gtbl ∧ Cond.selects y.cls y y ∈ gtbl
def SW (own : String) (index : Nat) (y : MethodName) : Prop := Cond.methodLink own index y ∈ gtbl ∧ Cond.static y ∈ gtbl
def IW (own : String) (index : Nat) (y : MethodName) : Prop := Cond.methodLink own index y ∈ gtbl ∧ Cond.instanceMethod y ∈ gtbl ∧ y.name = "<init>"
def NI (own : String) (index : Nat) (y : MethodName) : Prop := (∃ host, Cond.methodLinkNest own index y host ∈ lw_tbl) ∧ Cond.instanceMethod y ∈ gtbl ∧ y.name = "<init>"
def NS (own : String) (index : Nat) (y : MethodName) : Prop := (∃ host, Cond.methodLinkNest own index y host ∈ lw_tbl) ∧ Cond.static y ∈ gtbl
theorem r_callV (C : Cx X K cc nL own fr lo) {l : Launch} {y : MethodName} {bytes : ByteArray} {maxL n index b ci fr' lo' : Nat} {ret : Option FieldType} {r : vw_C} {As : List Value} {Pr : Option Value → Gt → Prop} {Px : String → Gt → Prop} (hL9 : kL K = l) (hw : YW y bytes maxL ret n) (hv : VW own index y) (hc : vwCl[ci]? = some r) (hcy : r.1 = y.cls) (ht : gT G b = (1, ci)) (hlen : lv.length = nL) (hn : As.length = n) (hst : (st.map fun v => v.category).sum ≤ 8) (hR : fr' + 1 ≤ fr ∧ 8 + (maxL + 11) + lo' ≤ lo)
    (hM9 : Mc X l y (.code y bytes maxL ret) fr' lo' (.ref b :: As) G Pr Px) {st0 : List Value} (hst0 : st0 = As.reverse ++ .ref b :: st) (hd : decode cc pc = .ok (.invokevirtual index, 3)) (kr : ∀ v G', Pr v G' → WM X K Q G' (pc + 3) lv (v.toList ++ st)) (kx : ∀ E G', Px E G' → XM X K Q G' pc lv st E) : WM X K Q G pc lv st0 := by
  subst hL9
  refine r_run (a := (Value.ref b :: As).toArray) (fun H locs ls h hl => ?_) kr kx
  obtain ⟨h1, h2, h3, h4, h5⟩ := hw
  obtain ⟨v1, v2, v3⟩ := hv
  obtain ⟨c1, c2, c3, c4, c5, c6, c7, c8, c9, c10, -⟩ := id C
  refine vx_runV (C := y.cls) (n := n) (bytes := bytes) (maxL := maxL) (ret := ret) (Ts := gtbl) ⟨c1, c2, c3, c4, c5⟩ hM9 (cwV n c5 (good_c v1 (good_c v2 (good_c v3 (good_c h2 (good_ws h1))))) rfl rfl rfl ⟨rfl, h3, h4, h5⟩ (by rw [c9, c10]; exact hR)) ⟨blindP, ?_, fun U hU hW => ⟨rfl, by rw [hU]; exact h.1, KF.warm hW c6⟩⟩ rfl hn (by rw [← hlen]; exact hl.1) hst0 (lv_room hst) hd (room_ok C h)
  rw [← hcy]
  exact obj_recv c6 h.1 ht hc
theorem r_callS (C : Cx X K cc nL own fr lo) {l : Launch} {y : MethodName} {bytes : ByteArray} {maxL n index fr' lo' : Nat} {ret : Option FieldType} {As : List Value} {Pr : Option Value → Gt → Prop} {Px : String → Gt → Prop} (hL9 : kL K = l) (hw : YW y bytes maxL ret n) (hv : SW own index y) (hlen : lv.length = nL) (hn : As.length = n) (hst : (st.map fun v => v.category).sum ≤ 8) (hR : fr' + 1 ≤ fr ∧ 8 + (maxL + 11) + lo' ≤ lo)
    (hM9 : Mc X l y (.code y bytes maxL ret) fr' lo' As G Pr Px) {st0 : List Value} (hst0 : st0 = As.reverse ++ st) (hd : decode cc pc = .ok (.invokestatic index, 3)) (kr : ∀ v G', Pr v G' → WM X K Q G' (pc + 3) lv (v.toList ++ st)) (kx : ∀ E G', Px E G' → XM X K Q G' pc lv st E) : WM X K Q G pc lv st0 := by
  subst hL9
  refine r_run (a := As.toArray) (fun H locs ls h hl => ?_) kr kx
  obtain ⟨h1, h2, h3, h4, h5⟩ := hw
  obtain ⟨v1, v2⟩ := hv
  obtain ⟨c1, c2, c3, c4, c5, c6, c7, c8, c9, c10, -⟩ := id C
  exact vx_runS (n := n) (bytes := bytes) (maxL := maxL) (ret := ret) (Ts := gtbl) ⟨c1, c2, c3, c4, c5⟩ hM9 (va_cwS n c5 (good_c v1 (good_c v2 (good_c h2 (good_ws h1)))) rfl rfl rfl ⟨h3, h4, h5⟩ (by rw [c9, c10]; exact hR)) ⟨blindP, fun U hU hW => ⟨rfl, by rw [hU]; exact h.1, KF.warm hW c6⟩⟩ rfl hn (by rw [← hlen]; exact hl.1) hst0 (lv_room hst) hd (room_ok C h)
theorem r_callI (C : Cx X K cc nL own fr lo) {l : Launch} {y : MethodName} {bytes : ByteArray} {maxL n index b fr' lo' : Nat} {As : List Value} {Pr : Option Value → Gt → Prop} {Px : String → Gt → Prop} (hL9 : kL K = l) (hw : YW y bytes maxL none n) (hv : IW own index y) (hlen : lv.length = nL) (hn : As.length = n) (hst : (st.map fun v => v.category).sum ≤ 8) (hR : fr' + 1 ≤ fr ∧ 8 + (maxL + 11) + lo' ≤ lo)
    (hM9 : Mc X l y (.code y bytes maxL none) fr' lo' (.ref b :: As) G Pr Px) {st0 : List Value} (hst0 : st0 = As.reverse ++ .ref b :: st) (hd : decode cc pc = .ok (.invokespecial index, 3)) (kr : ∀ v G', Pr v G' → WM X K Q G' (pc + 3) lv (v.toList ++ st)) (kx : ∀ E G', Px E G' → XM X K Q G' pc lv st E) : WM X K Q G pc lv st0 := by
  subst hL9
  refine r_run (a := (Value.ref b :: As).toArray) (fun H locs ls h hl => ?_) kr kx
  obtain ⟨h1, h2, h3, h4, h5⟩ := hw
  obtain ⟨v1, v2, v3⟩ := hv
  obtain ⟨c1, c2, c3, c4, c5, c6, c7, c8, c9, c10, -⟩ := id C
  exact vx_runI (n := n) (bytes := bytes) (maxL := maxL) (Ts := gtbl) ⟨c1, c2, c3, c4, c5⟩ hM9 (cwI n c5 (good_ws h1) rfl rfl rfl (c5 _ h2) (c5 _ v1) (c5 _ v2) v3 ⟨h3, h4, h5⟩ (by rw [c9, c10]; exact hR)) ⟨blindP, fun U hU hW => ⟨rfl, by rw [hU]; exact h.1, KF.warm hW c6⟩⟩ rfl hn (by rw [← hlen]; exact hl.1) hst0 (lv_room hst) hd (room_ok C h)
theorem r_callNI (C : Cx X K cc nL own fr lo) {l : Launch} {y : MethodName} {bytes : ByteArray} {maxL n index b fr' lo' : Nat} {As : List Value} {Pr : Option Value → Gt → Prop} {Px : String → Gt → Prop} (hL9 : kL K = l) (hw : YW y bytes maxL none n) (hv : NI own index y) (hlen : lv.length = nL) (hn : As.length = n) (hst : (st.map fun v => v.category).sum ≤ 8) (hR : fr' + 1 ≤ fr ∧ 8 + (maxL + 11) + lo' ≤ lo)
    (hM9 : Mc X l y (.code y bytes maxL none) fr' lo' (.ref b :: As) G Pr Px) {st0 : List Value} (hst0 : st0 = As.reverse ++ .ref b :: st) (hd : decode cc pc = .ok (.invokespecial index, 3)) (kr : ∀ v G', Pr v G' → WM X K Q G' (pc + 3) lv (v.toList ++ st)) (kx : ∀ E G', Px E G' → XM X K Q G' pc lv st E) : WM X K Q G pc lv st0 := by
  subst hL9
  refine r_run (a := (Value.ref b :: As).toArray) (fun H locs ls h hl => ?_) kr kx
  obtain ⟨h1, h2, h3, h4, h5⟩ := hw
  obtain ⟨⟨host, v1⟩, v2, v3⟩ := hv
  obtain ⟨c1, c2, c3, c4, c5, c6, c7, c8, c9, c10, -⟩ := id C
  exact vx_runIN (n := n) (host := host) (bytes := bytes) (maxL := maxL) (Ts := gtbl) ⟨c1, c2, c3, c4, c5⟩ hM9 ⟨va_cnB n c5 (good_ws h1) rfl rfl rfl (c6.2.1 _ v1 rfl) (c5 _ h2) ⟨h3, h4, h5⟩ (by rw [c9, c10]; exact hR), v3, c5 _ v2⟩ ⟨blindP, fun U hU hW => ⟨rfl, by rw [hU]; exact h.1, KF.warm hW c6⟩⟩ rfl hn (by rw [← hlen]; exact hl.1) hst0 (lv_room hst) hd (room_ok C h)
theorem r_callNS (C : Cx X K cc nL own fr lo) {l : Launch} {y : MethodName} {bytes : ByteArray} {maxL n index fr' lo' : Nat} {ret : Option FieldType} {As : List Value} {Pr : Option Value → Gt → Prop} {Px : String → Gt → Prop} (hL9 : kL K = l) (hw : YW y bytes maxL ret n) (hv : NS own index y) (hlen : lv.length = nL) (hn : As.length = n) (hst : (st.map fun v => v.category).sum ≤ 8) (hR : fr' + 1 ≤ fr ∧ 8 + (maxL + 11) + lo' ≤ lo)
    (hM9 : Mc X l y (.code y bytes maxL ret) fr' lo' As G Pr Px) {st0 : List Value} (hst0 : st0 = As.reverse ++ st) (hd : decode cc pc = .ok (.invokestatic index, 3)) (kr : ∀ v G', Pr v G' → WM X K Q G' (pc + 3) lv (v.toList ++ st)) (kx : ∀ E G', Px E G' → XM X K Q G' pc lv st E) : WM X K Q G pc lv st0 := by
  subst hL9
  refine r_run (a := As.toArray) (fun H locs ls h hl => ?_) kr kx
  obtain ⟨h1, h2, h3, h4, h5⟩ := hw
  obtain ⟨⟨host, v1⟩, v2⟩ := hv
  obtain ⟨c1, c2, c3, c4, c5, c6, c7, c8, c9, c10, -⟩ := id C
  exact vx_runSN (n := n) (host := host) (bytes := bytes) (maxL := maxL) (ret := ret) (Ts := gtbl) ⟨c1, c2, c3, c4, c5⟩ hM9 ⟨va_cnB n c5 (good_ws h1) rfl rfl rfl (c6.2.1 _ v1 rfl) (c5 _ h2) ⟨h3, h4, h5⟩ (by rw [c9, c10]; exact hR), c5 _ v2, trivial⟩ ⟨blindP, fun U hU hW => ⟨rfl, by rw [hU]; exact h.1, KF.warm hW c6⟩⟩ rfl hn (by rw [← hlen]; exact hl.1) hst0 (lv_room hst) hd (room_ok C h)
end CALLS
