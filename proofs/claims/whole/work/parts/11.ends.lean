section ENDS
variable {X : Xt} {K : Kt} {Q : State → Prop} {G : Gt} {pc : Nat} {lv : List (Option Value)} {st : List Value} {cc : ByteArray} {nL : Nat} {own : String} {fr lo : Nat}
variable {G0 : Gt} {Pr : Option Value → Gt → Prop} {Px : String → Gt → Prop}
theorem r_endH (E0 : EB X K G0) {H : Heap} {locs : List Loc} (h : hM X K G H locs) : gH G - (kS K).heap.size ≤ xC X - gH G0 ∧ gU G - hU (kS K).heap ≤ xS X - gU G0 := by
  have h1 : (kS K).heap.size = gH G0 := E0.2.1
  have h2 : hU (kS K).heap = gU G0 := E0.2.2.1
  have h3 := h.1.2.2.2.2.2
  rw [h1, h2]
  omega
theorem r_iret (C : Cx X K cc nL own fr lo) (E0 : EB X K G0) (hr : (kT K).sig.returnType = some .int) {v : Int32} (hp : Pr (some (.int v)) G) (hd : decode cc pc = .ok (.ireturn, 1)) : WM X K (QM X K G0 Pr Px) G pc lv [.int v] := by
  intro H locs ls h hl
  have z := r_endH E0 h
  obtain ⟨p, l, e, R, s, m, args, below, meth, c⟩ := K
  refine vx_ret (W.widen z.1 z.2 (W.iret C.1 C.2.1 hr (fun t ht hW => ⟨_, G, rfl, hp, by rw [ht]; exact h.1⟩) h.2.1 hd C.2.2.2.2.2.2.1))
theorem r_zret (C : Cx X K cc nL own fr lo) (E0 : EB X K G0) (hr : (kT K).sig.returnType = some .boolean) {v : Int32} (hz : v = 0 ∨ v = 1) (hp : Pr (some (.int v)) G) (hd : decode cc pc = .ok (.ireturn, 1)) : WM X K (QM X K G0 Pr Px) G pc lv [.int v] := by
  intro H locs ls h hl
  have z := r_endH E0 h
  obtain ⟨p, l, e, R, s, m, args, below, meth, c⟩ := K
  refine vx_ret (W.widen z.1 z.2 (W.zret C.1 C.2.1 hr (nb_01 hz).1 (fun t ht hW => ⟨_, G, rfl, hp, by rw [ht]; exact h.1⟩) h.2.1 hd C.2.2.2.2.2.2.1))
theorem r_lret (C : Cx X K cc nL own fr lo) (E0 : EB X K G0) (hr : (kT K).sig.returnType = some .long) {v : Int64} (hp : Pr (some (.long v)) G) (hd : decode cc pc = .ok (.lreturn, 1)) : WM X K (QM X K G0 Pr Px) G pc lv [.long v] := by
  intro H locs ls h hl
  have z := r_endH E0 h
  obtain ⟨p, l, e, R, s, m, args, below, meth, c⟩ := K
  refine vx_ret (W.widen z.1 z.2 (W.lret C.1 C.2.1 hr (fun t ht hW => ⟨_, G, rfl, hp, by rw [ht]; exact h.1⟩) h.2.1 hd C.2.2.2.2.2.2.1))
theorem r_vret (C : Cx X K cc nL own fr lo) (E0 : EB X K G0) (hr : (kT K).sig.returnType = none) (hp : Pr none G) (hd : decode cc pc = .ok (.return_, 1)) : WM X K (QM X K G0 Pr Px) G pc lv [] := by
  intro H locs ls h hl
  have z := r_endH E0 h
  obtain ⟨p, l, e, R, s, m, args, below, meth, c⟩ := K
  refine vx_ret (W.widen z.1 z.2 (W.vret C.1 C.2.1 hr (fun t ht hW => ⟨_, G, rfl, hp, by rw [ht]; exact h.1⟩) h.2.1 hd C.2.2.2.2.2.2.1))
theorem r_aret (C : Cx X K cc nL own fr lo) (E0 : EB X K G0) {rt : FieldType} (hr : (kT K).sig.returnType = some rt) (hrt : (∃ n, rt = .object n) ∨ ∃ t, rt = .array t) {x : Option Nat} (hp : Pr (some (va_rf x)) G) (hd : decode cc pc = .ok (.areturn, 1)) : WM X K (QM X K G0 Pr Px) G pc lv [va_rf x] := by
  intro H locs ls h hl
  have z := r_endH E0 h
  obtain ⟨p, l, e, R, s, m, args, below, meth, c⟩ := K
  refine vx_ret (W.widen z.1 z.2 (W.aret C.1 C.2.1 hr hrt (va_rf_cases x) (fun t ht hW => ⟨_, G, rfl, hp, by rw [ht]; exact h.1⟩) h.2.1 hd C.2.2.2.2.2.2.1))
theorem fv_new {ci n j : Nat} : fv (nO G ci n) ci (gH G) j = dfv ci j := by
  unfold fv dfv
  have h0 : gI (nO G ci n) (32 * ci + j) (gH G) = 0 := if_pos rfl
  have h1 : gR (nO G ci n) (32 * ci + j) (gH G) = none := if_pos rfl
  have h2 : gJ (nO G ci n) (32 * ci + j) (gH G) = 0 := if_pos rfl
  rw [h0, h1, h2]
  rfl
theorem newH {G' : Gt} {H : Heap} {locs : List Loc} {ls : Array Slot} {c : Cell} {n d : Nat} {st' : List Value} (kk : WM X K Q G' (pc + d) lv st') (h : hM X K G H locs) (hl : lh ls lv) (hh : gH G' = gH G + 1) (hu : gU G' = gU G + n) (hc : hC X G' (H.push c)) : kW K (H.push c) locs (gH G - (kS K).heap.size + 1) (gU G - hU (kS K).heap + n) Q (F0 (kM K) (pc + d) ls st') := by
  have h1 := h.2.2.1
  have h2 := h.2.2.2
  have z := kk (H.push c) locs ls ⟨hc, h.2.1, by rw [hh]; omega, by rw [hu]; omega⟩ hl
  rw [show gH G' - (kS K).heap.size = gH G - (kS K).heap.size + 1 by rw [hh]; omega, show gU G' - hU (kS K).heap = gU G - hU (kS K).heap + n by rw [hu]; omega] at z
  exact z
theorem push_at {H : Heap} {c : Cell} : (H.push c)[H.size]? = some c := by simp
theorem push_at2 {H : Heap} {c : Cell} {n : Nat} (h : H.size = n) : (H.push c)[n]? = some c := by rw [← h]; exact push_at
theorem gA_nA {n : Nat} : gA (nA G n) (gH G) = fun _ => 0 := va_up_self _ _ _
theorem gB_nB {k n : Nat} : gB (nB G k n) (gH G) = fun _ => none := va_up_self _ _ _
theorem gE_nE {n : Nat} : gE (nE G n) (gH G) = fun _ => 0 := va_up_self _ _ _
theorem push_lt {H : Heap} {c : Cell} (q : Nat) (hq : q < H.size) : (H.push c)[q]? = H[q]? := by rw [Array.getElem?_push, if_neg (Nat.ne_of_lt hq)]
theorem room_1' (C : Cx X K cc nL own fr lo) {H : Heap} {locs : List Loc} {n : Nat} (h : hM X K G H locs) (h1 : gH G + 1 ≤ xC X) (h2 : gU G + n ≤ xS X) : gH G - (kS K).heap.size + 1 ≤ (kR K).cells ∧ gU G - hU (kS K).heap + n ≤ (kR K).slots := by
  obtain ⟨-, -, -, -, -, -, -, -, -, -, g1, g2⟩ := C
  obtain ⟨-, -, g3, g4⟩ := h
  rw [g1, g2]
  omega
theorem r_new (C : Cx X K cc nL own fr lo) {ci N index : Nat} {Cn : String} {T : u_T} (hW : CW ci) (hc : vwCl[ci]? = some (Cn, T, N)) (hlk : Cond.classLink own index Cn ∈ gtbl) (h1 : gH G + 1 ≤ xC X) (h2 : gU G + N ≤ xS X) (hd : decode cc pc = .ok (.new index, 3)) (kk : WM X K Q (nO G ci N) (pc + 3) lv (.ref (gH G) :: st)) : WM X K Q G pc lv st := by
  intro H locs ls h hl
  have hr := room_1' C h h1 h2
  obtain ⟨p, l, e, R, s, m, args, below, meth, c⟩ := K
  obtain ⟨Cn9, T9, N9, ty, hc9, hin, hty, hnm, hins, hini, hdf⟩ := hW
  cases Option.some.inj (hc9.symm.trans hc)
  obtain ⟨c1, c2, c3, c4, c5, c6, -⟩ := C
  have hKn := c6.1.1 ci _ hc
  have hsz : H.size = gH G := h.1.2.1
  refine W.newc c1 c2 c4 (c5 _ hlk) (c5 _ hins) (c5 _ hini) rfl hd hr.1 hr.2 fun cC kC f1 f2 f3 f4 => ?_
  have e1 : (xD X).1 ci = cC := Option.some.inj (hKn.2.1.symm.trans f1)
  rw [hsz]
  refine newH (d := 3) kk h hl rfl rfl (hC_new h.1 (n := N) (by rw [Array.size_map]; exact f4) (fun b hb => va_up_ne _ _ hb) rfl rfl h1 h2 (fun b hb => ⟨fun ci k => fv_same (if_neg hb) (if_neg hb) (if_neg hb), rfl, rfl, rfl⟩) (by rw [Array.size_push]) push_at push_lt ?_)
  refine hE_i1 (va_up_self _ _ _) ⟨h.1.2.2.2.2.1, (Cn, T, N), hc, ?_⟩
  have hb := u_born (iS := (xD X).2 ci) (cC := (xD X).1 ci) (kC := kC) (o := H.size) (H := H.push ({ cls := cC, slots := kC.instanceTypes.map defaultValue, vm := .none } : Cell)) ty c5 hin hKn (by rw [e1]; exact f2) (by rw [e1]; exact push_at) hty
  rw [hsz] at hb
  exact hb.to (fun j hj => (hdf j hj).trans fv_new.symm)
theorem r_newa (C : Cx X K cc nL own fr lo) {n : Int32} (N : Nat) (hN : n.toNatClampNeg = N) (hn : ¬ n < 0) (hs : N ≤ 1000000) (ha : Cond.arrayClass .int ∈ gtbl) (h1 : gH G + 1 ≤ xC X) (h2 : gU G + N ≤ xS X) (hd : decode cc pc = .ok (.newarray .int, 2)) (kk : WM X K Q (nA G N) (pc + 2) lv (.ref (gH G) :: st)) : WM X K Q G pc lv (.int n :: st) := by
  intro H locs ls h hl
  have hr := room_1' C h h1 h2
  subst hN
  obtain ⟨p, l, e, R, s, m, args, below, meth, c⟩ := K
  obtain ⟨c1, c2, c3, c4, c5, c6, -⟩ := C
  have hsz : H.size = gH G := h.1.2.1
  refine W.newa (atype := .int) c1 c2 (c5 _ ha) rfl hd rfl hn (by show n.toNatClampNeg * 4 ≤ _; omega) hr.1 hr.2 fun cA kA comp f1 f2 f3 => ?_
  have e1 : s.vm.findClass ("[" ++ FieldType.int.toString) = some (xI X) := (c6.1.2 0 _ rfl).2
  cases Option.some.inj (e1.symm.trans f1)
  rw [hsz]
  refine newH (d := 2) kk h hl rfl rfl (hC_new h.1 (n := n.toNatClampNeg) (by rw [Array.size_replicate]) (fun b hb => va_up_ne _ _ hb) rfl rfl h1 h2 (fun b hb => ⟨fun ci k => fv_same rfl rfl rfl, va_up_ne _ _ hb, rfl, rfl⟩) (by rw [Array.size_push]) push_at push_lt ?_)
  refine hE_i2 (va_up_self _ _ _) ⟨h.1.2.2.2.2.1, ?_⟩
  rw [push_at2 hsz, arrV_new]
  congr 2
  funext j
  rw [gA_nA]
  rfl
theorem r_newE (C : Cx X K cc nL own fr lo) {n : Int32} (N : Nat) (hN : n.toNatClampNeg = N) (hn : ¬ n < 0) (hs : N ≤ 1000000) (ha : Cond.arrayClass .long ∈ gtbl) (h1 : gH G + 1 ≤ xC X) (h2 : gU G + N ≤ xS X) (hd : decode cc pc = .ok (.newarray .long, 2)) (kk : WM X K Q (nE G N) (pc + 2) lv (.ref (gH G) :: st)) : WM X K Q G pc lv (.int n :: st) := by
  intro H locs ls h hl
  have hr := room_1' C h h1 h2
  subst hN
  obtain ⟨p, l, e, R, s, m, args, below, meth, c⟩ := K
  obtain ⟨c1, c2, c3, c4, c5, c6, -⟩ := C
  have hsz : H.size = gH G := h.1.2.1
  refine W.newa (atype := .long) c1 c2 (c5 _ ha) rfl hd rfl hn (by show n.toNatClampNeg * 8 ≤ _; omega) hr.1 hr.2 fun cA kA comp f1 f2 f3 => ?_
  have e1 : s.vm.findClass ("[" ++ FieldType.long.toString) = some (xJ X) := (c6.1.2 3 _ rfl).2
  cases Option.some.inj (e1.symm.trans f1)
  rw [hsz]
  refine newH (d := 2) kk h hl rfl rfl (hC_new h.1 (n := n.toNatClampNeg) (by rw [Array.size_replicate]) (fun b hb => va_up_ne _ _ hb) rfl rfl h1 h2 (fun b hb => ⟨fun ci k => fv_same rfl rfl rfl, rfl, rfl, va_up_ne _ _ hb⟩) (by rw [Array.size_push]) push_at push_lt ?_)
  refine hE_i5 (va_up_self _ _ _) ⟨h.1.2.2.2.2.1, ?_⟩
  rw [push_at2 hsz, arrV_new]
  congr 2
  funext j
  rw [gE_nE]
  rfl
theorem r_anew3 (C : Cx X K cc nL own fr lo) {n : Int32} {index : Nat} (N : Nat) (hN : n.toNatClampNeg = N) (hn : ¬ n < 0) (hs : N ≤ 1000000) (ha : Cond.classLink own index "java/lang/Object" ∈ gtbl) (h1 : gH G + 1 ≤ xC X) (h2 : gU G + N ≤ xS X) (hd : decode cc pc = .ok (.anewarray index, 3)) (kk : WM X K Q (nB G 3 N) (pc + 3) lv (.ref (gH G) :: st)) : WM X K Q G pc lv (.int n :: st) := by
  intro H locs ls h hl
  have hr := room_1' C h h1 h2
  subst hN
  obtain ⟨p, l, e, R, s, m, args, below, meth, c⟩ := K
  obtain ⟨c1, c2, c3, c4, c5, c6, -⟩ := C
  have hsz : H.size = gH G := h.1.2.1
  refine W.anew c1 c2 c4 (c5 _ ha) (va_AO.use c6.2.2.2.1.1) rfl hd rfl hn (by omega) hr.1 hr.2 fun cA kA comp f1 f2 f3 f4 => ?_
  have e1 : s.vm.findClass ("[" ++ (FieldType.object "java/lang/Object").toString) = some (xO X) := va_nmO (c6.1.2 1 _ rfl).2 rfl
  cases Option.some.inj (e1.symm.trans f1)
  rw [hsz]
  refine newH (d := 3) kk h hl rfl rfl (hC_new h.1 (n := n.toNatClampNeg) (by rw [Array.size_replicate]) (fun b hb => va_up_ne _ _ hb) rfl rfl h1 h2 (fun b hb => ⟨fun ci k => fv_same rfl rfl rfl, rfl, va_up_ne _ _ hb, rfl⟩) (by rw [Array.size_push]) push_at push_lt ?_)
  refine hE_i3 (va_up_self _ _ _) ⟨h.1.2.2.2.2.1, ?_⟩
  rw [push_at2 hsz, arrV_new]
  congr 2
  funext j
  rw [gB_nB]
  rfl
theorem r_anew4 (C : Cx X K cc nL own fr lo) {n : Int32} {index : Nat} (N : Nat) (hN : n.toNatClampNeg = N) (hn : ¬ n < 0) (hs : N ≤ 1000000) (ha : Cond.classLink own index "RegisterGateway$Device" ∈ gtbl) (h1 : gH G + 1 ≤ xC X) (h2 : gU G + N ≤ xS X) (hd : decode cc pc = .ok (.anewarray index, 3)) (kk : WM X K Q (nB G 4 N) (pc + 3) lv (.ref (gH G) :: st)) : WM X K Q G pc lv (.int n :: st) := by
  intro H locs ls h hl
  have hr := room_1' C h h1 h2
  subst hN
  obtain ⟨p, l, e, R, s, m, args, below, meth, c⟩ := K
  obtain ⟨c1, c2, c3, c4, c5, c6, -⟩ := C
  have hsz : H.size = gH G := h.1.2.1
  refine W.anew c1 c2 c4 (c5 _ ha) (va_AO.use c6.2.2.2.1.2) rfl hd rfl hn (by omega) hr.1 hr.2 fun cA kA comp f1 f2 f3 f4 => ?_
  have e1 : s.vm.findClass ("[" ++ (FieldType.object "RegisterGateway$Device").toString) = some (xV X) := va_nmO (c6.1.2 2 _ rfl).2 rfl
  cases Option.some.inj (e1.symm.trans f1)
  rw [hsz]
  refine newH (d := 3) kk h hl rfl rfl (hC_new h.1 (n := n.toNatClampNeg) (by rw [Array.size_replicate]) (fun b hb => va_up_ne _ _ hb) rfl rfl h1 h2 (fun b hb => ⟨fun ci k => fv_same rfl rfl rfl, rfl, va_up_ne _ _ hb, rfl⟩) (by rw [Array.size_push]) push_at push_lt ?_)
  refine hE_i4 (va_up_self _ _ _) ⟨h.1.2.2.2.2.1, ?_⟩
  rw [push_at2 hsz, arrV_new]
  congr 2
  funext j
  rw [gB_nB]
  rfl
theorem r_objInit (C : Cx X K cc nL own fr lo) {a index : Nat} (h1 : Cond.methodLink own index objectInit ∈ gtbl) (h2 : Cond.instanceMethod objectInit ∈ gtbl) (h3 : Cond.code objectInit ⟨#[0xb1]⟩ 1 none ∈ gtbl) (hlen : lv.length = nL) (hf : 1 ≤ fr) (hlo : (st.map fun v => v.category).sum + 12 ≤ lo) (hd : decode cc pc = .ok (.invokespecial index, 3)) (kk : WM X K Q G (pc + 3) lv st) : WM X K Q G pc lv (.ref a :: st) := by
  intro H locs ls h hl
  obtain ⟨p, l, e, R, s, m, args, below, meth, c⟩ := K
  obtain ⟨c1, c2, c3, c4, c5, c6, c7, c8, c9, c10, -⟩ := C
  exact W.objInit c1 c2 c4 (c5 _ h1) (c5 _ h2) (c5 _ h3) rfl (by rw [c3, ← hlen]; exact hl.1) rfl hd (by rw [c9]; exact hf) (by rw [c10]; show 2 * 0 + _ + 12 ≤ lo; omega) (kk H locs ls h hl)
theorem r_getsZ (C : Cx X K cc nL own fr lo) {Cn n d : String} {v : Value} {index : Nat} (hZ : va_Z Cn n d v (xA X) (kS K) (xH X)) (hlk : Cond.fieldLink own index Cn n d ∈ gtbl) (hd : decode cc pc = .ok (.getstatic index, 3)) (kk : WM X K Q G (pc + 3) lv (v :: st)) : WM X K Q G pc lv st := by
  intro H locs ls h hl
  obtain ⟨p, l, e, R, s, m, args, below, meth, c⟩ := K
  obtain ⟨cf, kf, fi, f, a, cell, h1, h2, h3, h4, h5, h6, h7, h8⟩ := hZ
  have hz : a < xN X := Nat.not_le.mp h8
  exact W.gets C.1 C.2.1 C.2.2.2.1 (C.2.2.2.2.1 _ hlk) h1 h2 h3 h4 (by rw [h.1.2.2.2.1 _ hz]; exact h5) (fun e => by rw [e] at h6; cases h6) h7 rfl hd (kk H locs ls h hl)
theorem r_siald (C : Cx X K cc nL own fr lo) {t N : Nat} {f : Nat → Value} {i : Int32} {v : Value} (hT : va_T .int t N f (xA X) (kS K) (xH X)) (hin : vp_in i N) (hv : f i.toNatClampNeg = v) (hd : decode cc pc = .ok (.iaload, 1)) (kk : WM X K Q G (pc + 1) lv (v :: st)) : WM X K Q G pc lv (.int i :: .ref t :: st) := by
  intro H locs ls h hl
  obtain ⟨p, l, e, R, s, m, args, below, meth, c⟩ := K
  obtain ⟨cell, h1, h2, h3, h4, h5, h6, h7⟩ := hT
  have hlt := in_lt hin
  have hz : t < xN X := Nat.not_le.mp h7
  have hin' : ¬ (i < 0 ∨ cell.slots.size ≤ i.toNatClampNeg) := by
    intro q
    rcases q with q | q
    · exact hin (Or.inl q)
    · omega
  exact W.iald (v := v) C.1 C.2.1 (by rw [h.1.2.2.2.1 _ hz]; exact h1) h2 h3 hin' (by rw [h6 _ hlt, hv]) rfl rfl hd (kk H locs ls h hl)
theorem r_getsDE (C : Cx X K cc nL own fr lo) {index : Nat} (hlk : Cond.fieldLink own index RJx4a65c "DEFAULTCAPACITY_EMPTY_ELEMENTDATA" "[Ljava/lang/Object;" ∈ gtbl) (hd : decode cc pc = .ok (.getstatic index, 3)) (kk : WM X K Q G (pc + 3) lv (.ref (xde X) :: st)) : WM X K Q G pc lv st := r_getsZ C C.2.2.2.2.2.1.2.2.2.2.1.1 hlk hd kk
theorem r_gets0 (C : Cx X K cc nL own fr lo) {index : Nat} (hlk : Cond.fieldLink own index RX9 "LEAST_SETTING" "[I" ∈ gtbl) (hd : decode cc pc = .ok (.getstatic index, 3)) (kk : WM X K Q G (pc + 3) lv (.ref (xs0 X) :: st)) : WM X K Q G pc lv st := r_getsZ C C.2.2.2.2.2.1.2.2.2.2.2.1.1 hlk hd kk
theorem r_gets1 (C : Cx X K cc nL own fr lo) {index : Nat} (hlk : Cond.fieldLink own index RX9 "GREATEST_SETTING" "[I" ∈ gtbl) (hd : decode cc pc = .ok (.getstatic index, 3)) (kk : WM X K Q G (pc + 3) lv (.ref (xs1 X) :: st)) : WM X K Q G pc lv st := r_getsZ C C.2.2.2.2.2.1.2.2.2.2.2.2.1.1 hlk hd kk
theorem r_iald0 (C : Cx X K cc nL own fr lo) {i : Int32} (hin : vp_in i 5) (hd : decode cc pc = .ok (.iaload, 1)) (kk : WM X K Q G (pc + 1) lv (.int (lst0 i.toNatClampNeg) :: st)) : WM X K Q G pc lv (.int i :: .ref (xs0 X) :: st) := r_siald C C.2.2.2.2.2.1.2.2.2.2.2.1.2 hin rfl hd kk
theorem r_iald1 (C : Cx X K cc nL own fr lo) {i : Int32} (hin : vp_in i 5) (hd : decode cc pc = .ok (.iaload, 1)) (kk : WM X K Q G (pc + 1) lv (.int (lst1 i.toNatClampNeg) :: st)) : WM X K Q G pc lv (.int i :: .ref (xs1 X) :: st) := r_siald C C.2.2.2.2.2.1.2.2.2.2.2.2.1.2 hin rfl hd kk
theorem r_cast (C : Cx X K cc nL own fr lo) {a ci index : Nat} {r : vw_C} (hc : vwCl[ci]? = some r) (hlk : Cond.classLink own index r.1 ∈ gtbl) (ht : gT G a = (1, ci)) (hd : decode cc pc = .ok (.checkcast index, 3)) (kk : WM X K Q G (pc + 3) lv (.ref a :: st)) : WM X K Q G pc lv (.ref a :: st) := by
  intro H locs ls h hl
  obtain ⟨p, l, e, R, s, m, args, below, meth, c⟩ := K
  exact va_castS C.1 C.2.1 C.2.2.2.1 (C.2.2.2.2.1 _ hlk) (C.2.2.2.2.2.1.1.1 ci r hc).2 (obj_recv C.2.2.2.2.2.1 h.1 ht hc) hd (kk H locs ls h hl)
/-- not caught here -/
theorem x_out (C : Cx X K cc nL own fr lo) (E0 : EB X K G0) (hex : ∀ x ∈ (kC K).exceptionTable.toList, False) {E : String} (hp : Px E G) : XM X K (QM X K G0 Pr Px) G pc lv st E := by
  intro H locs ls q ce h hl h1 h2 h3
  have z := r_endH E0 h
  obtain ⟨p, l, e, R, s, m, args, below, meth, c⟩ := K
  exact vx_out (fun x hx => (hex x hx).elim) C.2.2.2.2.2.2.1 h1 h2 h3 (fun t ht hv => ⟨G, hp, by rw [ht]; exact h.1⟩) h.2.1 z.1 z.2
theorem x_none {E : String} (h : False) : XM X K Q G pc lv st E := h.elim
end ENDS
