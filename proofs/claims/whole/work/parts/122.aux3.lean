/-! ===== array copies, mirrors, throws and catches ===== -/
theorem cast12 : ∀ ci, ci < 12 → ∃ r : vw_C, vwCl[ci]? = some r ∧ Cond.castable r.1 "java/lang/Object" ∈ lw_tbl := by
  intro ci h
  rcases (show ci = 0 ∨ ci = 1 ∨ ci = 2 ∨ ci = 3 ∨ ci = 4 ∨ ci = 5 ∨ ci = 6 ∨ ci = 7 ∨ ci = 8 ∨ ci = 9 ∨ ci = 10 ∨ ci = 11 by omega) with rfl | rfl | rfl | rfl | rfl | rfl | rfl | rfl | rfl | rfl | rfl | rfl
  · exact ⟨_, rfl, List.mem_of_getElem? (i := 1543) (by decide +kernel)⟩
  · exact ⟨_, rfl, List.mem_of_getElem? (i := 1541) (by decide +kernel)⟩
  · exact ⟨_, rfl, List.mem_of_getElem? (i := 1540) (by decide +kernel)⟩
  · exact ⟨_, rfl, List.mem_of_getElem? (i := 1538) (by decide +kernel)⟩
  · exact ⟨_, rfl, List.mem_of_getElem? (i := 1545) (by decide +kernel)⟩
  · exact ⟨_, rfl, List.mem_of_getElem? (i := 1544) (by decide +kernel)⟩
  · exact ⟨_, rfl, List.mem_of_getElem? (i := 1546) (by decide +kernel)⟩
  · exact ⟨_, rfl, List.mem_of_getElem? (i := 1542) (by decide +kernel)⟩
  · exact ⟨_, rfl, List.mem_of_getElem? (i := 1552) (by decide +kernel)⟩
  · exact ⟨_, rfl, List.mem_of_getElem? (i := 1551) (by decide +kernel)⟩
  · exact ⟨_, rfl, List.mem_of_getElem? (i := 1539) (by decide +kernel)⟩
  · exact ⟨_, rfl, List.mem_of_getElem? (i := 1547) (by decide +kernel)⟩
theorem nnI (z : Int32) (hz : ¬ z < 0) : z.toInt = (z.toNatClampNeg : Int) := by
  have hz0 : (0 : Int) ≤ z.toInt := by
    have := Int32.not_lt.mp hz
    simpa using Int32.le_iff_toInt_le.mp this
  show z.toInt = ((z.toInt.toNat : Nat) : Int)
  omega
/-- the words of a copy -/
def ACw (own : String) (index : Nat) : Prop := Cond.methodLink own index arraycopyName ∈ gtbl ∧ Cond.native arraycopyName ∈ gtbl ∧ Cond.static arraycopyName ∈ gtbl ∧ Cond.initialized "java/lang/System" ∈ gtbl
section AUX3
variable {X : Xt} {K : Kt} {Q : State → Prop} {G : Gt} {pc : Nat} {lv : List (Option Value)} {st : List Value} {cc : ByteArray} {nL : Nat} {own : String} {fr lo : Nat}
theorem r_aast3P (C : Cx X K cc nL own fr lo) {a b : Nat} {i : Int32} (ht : (gT G a).1 = 3) (hv1 : (gT G b).1 = 1) (hv2 : (gT G b).2 < 12) (hi : vp_in i (gT G a).2) (hd : decode cc pc = .ok (.aastore, 1)) (kk : WM X K Q (sB G a (va_up (gB G a) i.toNatClampNeg (some b))) (pc + 1) lv st) : WM X K Q G pc lv (.ref b :: .int i :: .ref a :: st) := by
  obtain ⟨r, h1, h2⟩ := cast12 _ hv2
  exact r_aast3 C h1 h2 (gTp ht) (gTp hv1) hi hd kk
theorem r_cpH {G' : Gt} {a d : Nat} {H : Heap} {locs L : List Loc} {cell cell' : Cell} {ls : Array Slot} (kk : WM X K Q G' (pc + d) lv st) (h : hM X K G H locs) (hl : lh ls lv) (hG : gCh a G G') (hN : xN X ≤ a) (q1 : H[a]? = some cell) (hs : cell'.slots.size = cell.slots.size) (hL : ∀ q ∈ L, q.base = a) (he : hE X G' (H.setIfInBounds a cell') a) :
    kW K (H.setIfInBounds a cell') (locs ++ L) (gH G - (kS K).heap.size) (gU G - hU (kS K).heap) Q (F0 (kM K) (pc + d) ls st) := by
  have hlt : a < H.size := (Array.getElem?_eq_some_iff.mp q1).1
  have hc' : hC X G' (H.setIfInBounds a cell') := hC_put h.1 hG hN q1 (c' := cell') (by simp [Array.getElem?_setIfInBounds, hlt]) hs (by simp) (fun q hq => by simp [Array.getElem?_setIfInBounds, Ne.symm hq]) he
  have z := kk (H.setIfInBounds a cell') (locs ++ L) ls ⟨hc', fun q hq => (List.mem_append.mp hq).elim (h.2.1 q) (fun z => by rw [hL q z]; exact hN), by rw [hG.2.1]; exact h.2.2.1, by rw [hG.2.2.1]; exact h.2.2.2⟩ hl
  rw [hG.2.1, hG.2.2.1] at z
  exact z
theorem r_copyI (C : Cx X K cc nL own fr lo) {index a0 a : Nat} {sp dp n : Int32} (hw : ACw own index) (ht0 : (gT G a0).1 = 2) (ht1 : (gT G a).1 = 2) (h1 : ¬ sp < 0) (h2 : ¬ dp < 0) (h3 : ¬ n < 0) (h4 : sp.toNatClampNeg + n.toNatClampNeg ≤ (gT G a0).2) (h5 : dp.toNatClampNeg + n.toNatClampNeg ≤ (gT G a).2)
    (hlen : lv.length = nL) (hf : 1 ≤ fr) (hlo : (st.map fun v => v.category).sum + (nativeFrameWords "java/lang/System" "arraycopy" 5 + 11) ≤ lo) (hd : decode cc pc = .ok (.invokestatic index, 3)) (kk : WM X K Q (sA G a (va_cpy (gA G a0) (gA G a) sp.toNatClampNeg dp.toNatClampNeg n.toNatClampNeg)) (pc + 3) lv st) : WM X K Q G pc lv (.int n :: .int dp :: .ref a :: .int sp :: .ref a0 :: st) := by
  intro H locs ls h hl
  obtain ⟨c1, c2, c3, c4, c5, c6, c7, c8, c9, c10, -⟩ := C
  obtain ⟨w1, w2, w3, w4⟩ := hw
  intro T hT Y
  obtain ⟨hN0, hc0⟩ := hE_2 (gTp ht0) (h.1.1 a0)
  obtain ⟨hN1, hc1⟩ := hE_2 (gTp ht1) (h.1.1 a)
  obtain ⟨-, k0, hk0, cm0, hkk0⟩ := (c6.1.2 0 _ rfl).1 (gT G a0).2 (fun j => .int (gA G a0 j))
  obtain ⟨-, k1, hk1, cm1, hkk1⟩ := (c6.1.2 0 _ rfl).1 (gT G a).2 (fun j => .int (gA G a j))
  obtain ⟨vm', X', step⟩ := Y.arraycopy c1 c4 (c5 _ w1) (c5 _ w2) (c5 _ w3) (c5 _ w4) (src := a0) (dst := a) (cs := arrV (xI X) (gT G a0).2 (fun j => .int (gA G a0 j))) (cd := arrV (xI X) (gT G a).2 (fun j => .int (gA G a j))) (srcPos := sp) (destPos := dp) (n := n) (by rw [hT]; exact hc0) (by rw [hT]; exact hc1)
    (fun _ h => by cases h) (fun _ h => by cases h) (fun h => by cases h) (fun h => by cases h) hk0 hk1 hkk0 hkk1 (by simp [refKind]) h1 h2 h3
    (by rw [nnI sp h1, nnI n h3, arrV_size]; omega)
    (by rw [nnI dp h2, nnI n h3, arrV_size]; omega)
    (fun vm₁ _ i hi => by
      have e : (arrV (xI X) (gT G a0).2 (fun j => .int (gA G a0 j))).slots.getD (sp.toNatClampNeg + i) .null = .int (gA G a0 (sp.toNatClampNeg + i)) := by
        rw [Array.getD_eq_getD_getElem?, arrV_read _ _ (by omega)]
        rfl
      refine ⟨?_, ?_⟩
      · rw [e]; rfl
      · rw [e]; exact trivial)
    (g := F0 (kM K) pc ls (.int n :: .int dp :: .ref a :: .int sp :: .ref a0 :: st)) rfl (by rw [c3, ← hlen]; exact hl.1) (rest := st) rfl (by rw [c2]; exact hd) (by rw [c9]; exact hf) (by rw [c10]; show 2 * 0 + _ + _ ≤ _; omega)
  have e1 : copied (arrV (xI X) (gT G a0).2 (fun j => .int (gA G a0 j))) (arrV (xI X) (gT G a).2 (fun j => .int (gA G a j))) sp dp n = arrV (xI X) (gT G a).2 (fun j => .int (va_cpy (gA G a0) (gA G a) sp.toNatClampNeg dp.toNatClampNeg n.toNatClampNeg j)) := va_copied (fun z => .int z) (xI X) (xI X) (gA G a0) (gA G a) h4
  rw [e1] at X' step
  have hlt : a < H.size := (Array.getElem?_eq_some_iff.mp hc1).1
  have hheap : ((T.setVm vm').setCell a (arrV (xI X) (gT G a).2 (fun j => .int (va_cpy (gA G a0) (gA G a) sp.toNatClampNeg dp.toNatClampNeg n.toNatClampNeg j)))).heap = H.setIfInBounds a (arrV (xI X) (gT G a).2 (fun j => .int (va_cpy (gA G a0) (gA G a) sp.toNatClampNeg dp.toNatClampNeg n.toNatClampNeg j))) := by rw [← hT]; rfl
  obtain ⟨t, a1, b1⟩ := r_cpH kk h hl gCh_A hN1 hc1 (by rw [arrV_size, arrV_size]) (fun q hq => by obtain ⟨z, -, hz⟩ := List.mem_map.mp hq; rw [← hz]) (hE_i2 (gTp ht1) ⟨hN1, by rw [gA_sA]; simp [Array.getElem?_setIfInBounds, hlt]; rfl⟩) _ hheap X'
  exact ⟨t, step t a1, b1⟩
theorem r_copyR (C : Cx X K cc nL own fr lo) {index a0 a : Nat} {sp dp n : Int32} (hw : ACw own index) (ht0 : (gT G a0).1 = 3) (ht1 : (gT G a).1 = 3) (h1 : ¬ sp < 0) (h2 : ¬ dp < 0) (h3 : ¬ n < 0) (h4 : sp.toNatClampNeg + n.toNatClampNeg ≤ (gT G a0).2) (h5 : dp.toNatClampNeg + n.toNatClampNeg ≤ (gT G a).2) (hel : ∀ i : Nat, i < n.toNatClampNeg → ∀ y : Nat, gB G a0 (sp.toNatClampNeg + i) = some y → (gT G y).1 = 1 ∧ (gT G y).2 < 12)
    (hlen : lv.length = nL) (hf : 1 ≤ fr) (hlo : (st.map fun v => v.category).sum + (nativeFrameWords "java/lang/System" "arraycopy" 5 + 11) ≤ lo) (hd : decode cc pc = .ok (.invokestatic index, 3)) (kk : WM X K Q (sB G a (va_cpy (gB G a0) (gB G a) sp.toNatClampNeg dp.toNatClampNeg n.toNatClampNeg)) (pc + 3) lv st) : WM X K Q G pc lv (.int n :: .int dp :: .ref a :: .int sp :: .ref a0 :: st) := by
  intro H locs ls h hl
  obtain ⟨c1, c2, c3, c4, c5, c6, c7, c8, c9, c10, -⟩ := C
  obtain ⟨w1, w2, w3, w4⟩ := hw
  intro T hT Y
  obtain ⟨hN0, hc0⟩ := hE_3 (gTp ht0) (h.1.1 a0)
  obtain ⟨hN1, hc1⟩ := hE_3 (gTp ht1) (h.1.1 a)
  obtain ⟨-, k0, hk0, cm0, hkk0⟩ := (c6.1.2 1 _ rfl).1 (gT G a0).2 (fun j => va_rf (gB G a0 j))
  obtain ⟨-, k1, hk1, cm1, hkk1⟩ := (c6.1.2 1 _ rfl).1 (gT G a).2 (fun j => va_rf (gB G a j))
  obtain ⟨vm', X', step⟩ := Y.arraycopy c1 c4 (c5 _ w1) (c5 _ w2) (c5 _ w3) (c5 _ w4) (src := a0) (dst := a) (cs := arrV (xO X) (gT G a0).2 (fun j => va_rf (gB G a0 j))) (cd := arrV (xO X) (gT G a).2 (fun j => va_rf (gB G a j))) (srcPos := sp) (destPos := dp) (n := n) (by rw [hT]; exact hc0) (by rw [hT]; exact hc1)
    (fun _ h => by cases h) (fun _ h => by cases h) (fun h => by cases h) (fun h => by cases h) hk0 hk1 hkk0 hkk1 rfl h1 h2 h3
    (by rw [nnI sp h1, nnI n h3, arrV_size]; omega)
    (by rw [nnI dp h2, nnI n h3, arrV_size]; omega)
    (fun vm₁ hal i hi => by
      have e : (arrV (xO X) (gT G a0).2 (fun j => va_rf (gB G a0 j))).slots.getD (sp.toNatClampNeg + i) .null = va_rf (gB G a0 (sp.toNatClampNeg + i)) := by
        rw [Array.getD_eq_getD_getElem?, arrV_read _ _ (by omega)]
        rfl
      rw [e]
      cases hy : gB G a0 (sp.toNatClampNeg + i) with
      | none => exact ⟨rfl, trivial⟩
      | some y =>
        obtain ⟨ty1, ty2⟩ := hel i hi y hy
        obtain ⟨r9, r91, r92⟩ := cast12 _ ty2
        obtain ⟨cellV, g1, g2, g3⟩ := obj_recv c6 h.1 (gTp ty1) r91
        obtain ⟨kC, hkC, -⟩ := Vm.findClass_spec g3
        obtain ⟨kA, comp, r1, r2, r3, -⟩ := (c6.1.2 1 _ rfl).2
        cases hk1.symm.trans r1
        cases hkk1.symm.trans r2
        obtain ⟨c0, t0, f1, f2, f3⟩ := Cond.castable_spec (va_Nw.use (A := kA K) rfl (c6.2.1 _ r92 rfl))
        cases Option.some.inj (f1.symm.trans g3)
        cases Option.some.inj (f2.symm.trans r3)
        obtain ⟨kE, hkE, -⟩ := Vm.findClass_spec r3
        obtain ⟨kC', hkC', -⟩ := hal.2.2 _ _ hkC
        obtain ⟨kE', hkE', -⟩ := hal.2.2 _ _ hkE
        refine ⟨rfl, cellV, (show T.heap[y]? = some cellV by rw [hT]; exact g1), (fun q h => by rw [h] at g2; cases g2), ⟨kC', hkC'⟩, ?_, ?_⟩
        · exact ⟨kE', hkE'⟩
        · show vm₁.assignable _ _ = true
          rw [hal.assignable]
          exact f3)
    (g := F0 (kM K) pc ls (.int n :: .int dp :: .ref a :: .int sp :: .ref a0 :: st)) rfl (by rw [c3, ← hlen]; exact hl.1) (rest := st) rfl (by rw [c2]; exact hd) (by rw [c9]; exact hf) (by rw [c10]; show 2 * 0 + _ + _ ≤ _; omega)
  have e1 : copied (arrV (xO X) (gT G a0).2 (fun j => va_rf (gB G a0 j))) (arrV (xO X) (gT G a).2 (fun j => va_rf (gB G a j))) sp dp n = arrV (xO X) (gT G a).2 (fun j => va_rf (va_cpy (gB G a0) (gB G a) sp.toNatClampNeg dp.toNatClampNeg n.toNatClampNeg j)) := va_copied (fun z => va_rf z) (xO X) (xO X) (gB G a0) (gB G a) h4
  rw [e1] at X' step
  have hlt : a < H.size := (Array.getElem?_eq_some_iff.mp hc1).1
  have hheap : ((T.setVm vm').setCell a (arrV (xO X) (gT G a).2 (fun j => va_rf (va_cpy (gB G a0) (gB G a) sp.toNatClampNeg dp.toNatClampNeg n.toNatClampNeg j)))).heap = H.setIfInBounds a (arrV (xO X) (gT G a).2 (fun j => va_rf (va_cpy (gB G a0) (gB G a) sp.toNatClampNeg dp.toNatClampNeg n.toNatClampNeg j))) := by rw [← hT]; rfl
  obtain ⟨t, a1, b1⟩ := r_cpH kk h hl gCh_B hN1 hc1 (by rw [arrV_size, arrV_size]) (fun q hq => by obtain ⟨z, -, hz⟩ := List.mem_map.mp hq; rw [← hz]) (hE_i3 (gTp ht1) ⟨hN1, by rw [gB_sB]; simp [Array.getElem?_setIfInBounds, hlt]; rfl⟩) _ hheap X'
  exact ⟨t, step t a1, b1⟩
theorem r_ldcM (C : Cx X K cc nL own fr lo) {index : Nat} (hw : Cond.classLink own index "[Ljava/lang/Object;" ∈ gtbl) (hd : decode cc pc = .ok (.ldc index, 2)) (kk : WM X K Q G (pc + 2) lv (.ref (xmi X) :: st)) : WM X K Q G pc lv st := fun H locs ls h hl => va_ldcM C.1 C.2.1 C.2.2.2.1 (C.2.2.2.2.1 _ hw) C.2.2.2.2.2.1.2.2.2.2.2.2.2.2.1.1 hd (kk H locs ls h hl)
theorem r_getC (C : Cx X K cc nL own fr lo) {index a : Nat} (w1 : Cond.methodLink own index ⟨"java/lang/Object", "getClass", "()Ljava/lang/Class;"⟩ ∈ gtbl) (w2 : Cond.selects "[Ljava/lang/Object;" ⟨"java/lang/Object", "getClass", "()Ljava/lang/Class;"⟩ ⟨"java/lang/Object", "getClass", "()Ljava/lang/Class;"⟩ ∈ gtbl) (w3 : Cond.instanceMethod ⟨"java/lang/Object", "getClass", "()Ljava/lang/Class;"⟩ ∈ gtbl) (w4 : Cond.native ⟨"java/lang/Object", "getClass", "()Ljava/lang/Class;"⟩ ∈ gtbl) (ht : (gT G a).1 = 3) (hlen : lv.length = nL) (hf : 1 ≤ fr) (hlo : (st.map fun v => v.category).sum + 14 ≤ lo) (hd : decode cc pc = .ok (.invokevirtual index, 3)) (kk : WM X K Q G (pc + 3) lv (.ref (xmi X) :: st)) : WM X K Q G pc lv (.ref a :: st) := by
  intro H locs ls h hl
  obtain ⟨c1, c2, c3, c4, c5, c6, c7, c8, c9, c10, -⟩ := C
  have h3 := hE_3 (gTp ht) (h.1.1 a)
  exact va_getC c1 c2 (by rw [c3, ← hlen]; exact hl.1.symm) c4 (c5 _ w1) (va_Dc.use c6.2.2.2.2.2.2.2.2.1.2) (c5 _ w2) (c5 _ w3) (c5 _ w4) c6.2.2.2.2.2.2.2.2.1.1 ⟨_, h3.2, rfl, va_nmO (c6.1.2 1 _ rfl).2 rfl⟩ (by rw [c9]; exact hf) (by rw [c10]; exact hlo) hd (kk H locs ls h hl)
def nmsE : List String := ["java/lang/RuntimeException", "java/lang/Exception"]
/-- the words of a throw -/
def TH (own : String) (ik ic : Nat) (E : String) : Prop := Bundle.fit E = true ∧ (∀ n ∈ nmsE, Bundle.fit n = true) ∧ Cond.classLink own ik E ∈ gtbl ∧ Cond.initialized E ∈ gtbl ∧ (∀ w ∈ vx_atS own ic E nmsE, w ∈ lw_tbl ∧ (goodWord w = true ∨ nkw w = true)) ∧ (∀ w ∈ Cond.classLink own ik E :: Cond.initialized E :: vx_atS own ic E nmsE, vx_ot w = true)
theorem nkw_on {w : Cond} (h : nkw w = true) : w.onTables = true := by cases w <;> first | rfl | (simp [nkw] at h)
theorem th_hat {own : String} {ik ic : Nat} {E : String} {args : Array Value} {s : State} (hT : TH own ik ic E) (hts : ∀ w ∈ gtbl, w.before args s = true) (hKF : KF X s) : ∀ w ∈ vx_atS own ic E nmsE, w.before args s = true := by
  intro w hw
  obtain ⟨h1, h2⟩ := hT.2.2.2.2.1 w hw
  rcases h2 with h2 | h2
  · exact hts w (List.mem_filter.mpr ⟨h1, h2⟩)
  · exact va_Nw.use (nkw_on h2) (hKF.2.1 w h1 h2)
theorem old_Zq {C n d : String} {G0 : Gt} {s : State} (hKF : KF X s) (h0 : hC X G0 s.heap) (h : vx_Zq C n d (xA X) s (xH X)) : vx_Zq C n d (xA X) s s.heap := h.kept (fun a h1 h2 => h0.2.2.2.1 a (Nat.not_le.mp h2))
theorem old_S {G0 : Gt} {H : Heap} {locs : List Loc} (E0 : EB X K G0) (h : hM X K G H locs) : va_S (xA X) (kS K).heap H locs := by
  refine ⟨by rw [h.1.2.1]; exact h.2.2.1, fun q h1 h2 => ?_, h.2.1⟩
  have h3 : q < xN X := Nat.not_le.mp h2
  rw [h.1.2.2.2.1 q h3, E0.2.2.2.1 q h3]
theorem nX_C {H : Heap} {t : Heap} (h : hC X G H) (h1 : H.size ≤ t.size) (h2 : t.size ≤ H.size + 1) (h3 : hU t ≤ hU H + 6) (h4 : ∀ q : Nat, q < H.size → t[q]? = H[q]?) (r1 : gH G + 1 ≤ xC X) (r2 : gU G + 6 ≤ xS X) : gH G ≤ t.size ∧ t.size ≤ gH G + 1 ∧ gU G ≤ hU t ∧ hU t ≤ gU G + 6 ∧ hC X (nX G t.size (hU t)) t := by
  obtain ⟨g1, g2, g3, g4, g5, g6, g7⟩ := h
  have e := hU_ext h4
  refine ⟨by omega, by omega, by omega, by omega, fun a => hE_keep (g1 a) rfl (fun _ _ => rfl) rfl rfl rfl (fun q => h4 a q), rfl, rfl, fun q hq => by rw [h4 q (by omega)]; exact g4 q hq, ?_, ?_, ?_⟩
  · show xN X ≤ t.size; omega
  · show t.size ≤ xC X; omega
  · show hU t ≤ xS X; omega
theorem r_throw {l : Launch} {G0 : Gt} {Pr : Option Value → Gt → Prop} {Px : String → Gt → Prop} {ik isx ic : Nat} {E text : String} (hL : kL K = l) (hfl : l.stackTraces = false) (C : Cx X K cc nL own fr lo) (E0 : EB X K G0) (hex : ∀ x ∈ (kC K).exceptionTable.toList, False) (hT : TH own ik ic E) (hS : Cond.stringRef own isx text ∈ lw_tbl)
    (hp : gH G + 1 ≤ xC X ∧ gU G + 6 ≤ xS X ∧ ∀ h u, gH G ≤ h → h ≤ gH G + 1 → gU G ≤ u → u ≤ gU G + 6 → Px E (nX G h u)) (hlen : lv.length = nL) (hf : 5 < fr) (hlo : (st.map fun v => v.category).sum + 82 ≤ lo)
    (d0 : decode cc pc = .ok (.new ik, 3)) (d3 : decode cc (pc + 3) = .ok (.dup, 1)) (d4 : decode cc (pc + 4) = .ok (.ldc isx, 2)) (d6 : decode cc (pc + 6) = .ok (.invokespecial ic, 3)) (d9 : decode cc (pc + 9) = .ok (.athrow, 1)) : WM X K (QM X K G0 Pr Px) G pc lv st := by
  intro H locs ls h hl
  obtain ⟨p1, p2, p3⟩ := hp
  have z := room_1' C h p1 p2
  have zz : gH G - (kS K).heap.size + 1 ≤ xC X - gH G0 ∧ gU G - hU (kS K).heap + 6 ≤ xS X - gU G0 := by
    have e1 := E0.2.1
    have e2 := E0.2.2.1
    have e3 := h.2.2.1
    have e4 := h.2.2.2
    omega
  have hSs := old_S E0 h
  obtain ⟨c1, c2, c3, c4, c5, c6, c7, c8, c9, c10, -⟩ := C
  obtain ⟨sa, hsa⟩ := c6.2.2.1 _ _ _ hS
  exact gx_throwS (A := xA X) (free := xA X) (names := nmsE) (ic := ic) (ik := ik) (is := isx) (text := text) (own := own) c1 c2 c8 c4 hT.1 hT.2.1 (c5 _ hT.2.2.1) (c5 _ hT.2.2.2.1) hsa (th_hat hT c5 c6) hT.2.2.2.2.2 (old_Zq c6 E0 c6.2.2.2.2.2.2.2.1.1) (old_Zq c6 E0 c6.2.2.2.2.2.2.2.1.2) hSs (by rw [c3, ← hlen]; exact hl.1) d0 d3 d4 d6 d9 (fun x hx => (hex x hx).elim) (by rw [c9]; exact hf) (by rw [c10]; exact hlo) z.1 z.2 c7
    (fun t _ g1 g2 g3 g4 => by
      obtain ⟨k1, k2, k3, k4, k5⟩ := nX_C h.1 g1 g2 g3 g4 p1 p2
      exact ⟨_, p3 _ _ k1 k2 k3 k4, k5⟩) h.2.1 zz.1 zz.2
theorem r_throwW {l : Launch} {G0 : Gt} {Pr : Option Value → Gt → Prop} {Px : String → Gt → Prop} {ik isx ic : Nat} {E text : String} (hL : kL K = l) (hfl : l.stackTraces = false) (C : Cx X K cc nL own fr lo) (E0 : EB X K G0) (hex : ∀ x ∈ (kC K).exceptionTable.toList, False) (hT : TH own ik ic E) (hS : Cond.stringRef own isx text ∈ lw_tbl)
    (hp : gH G + 1 ≤ xC X ∧ gU G + 6 ≤ xS X ∧ ∀ h u, gH G ≤ h → h ≤ gH G + 1 → gU G ≤ u → u ≤ gU G + 6 → Px E (nX G h u)) (hlen : lv.length = nL) (hf : 5 < fr) (hlo : (st.map fun v => v.category).sum + 82 ≤ lo)
    (d0 : decode cc pc = .ok (.new ik, 3)) (d3 : decode cc (pc + 3) = .ok (.dup, 1)) (d4 : decode cc (pc + 4) = .ok (.ldc_w isx, 3)) (d6 : decode cc (pc + 7) = .ok (.invokespecial ic, 3)) (d9 : decode cc (pc + 10) = .ok (.athrow, 1)) : WM X K (QM X K G0 Pr Px) G pc lv st := by
  intro H locs ls h hl
  obtain ⟨p1, p2, p3⟩ := hp
  have z := room_1' C h p1 p2
  have zz : gH G - (kS K).heap.size + 1 ≤ xC X - gH G0 ∧ gU G - hU (kS K).heap + 6 ≤ xS X - gU G0 := by
    have e1 := E0.2.1
    have e2 := E0.2.2.1
    have e3 := h.2.2.1
    have e4 := h.2.2.2
    omega
  have hSs := old_S E0 h
  obtain ⟨c1, c2, c3, c4, c5, c6, c7, c8, c9, c10, -⟩ := C
  obtain ⟨sa, hsa⟩ := c6.2.2.1 _ _ _ hS
  exact gx_throwSW (A := xA X) (free := xA X) (names := nmsE) (ic := ic) (ik := ik) (is := isx) (text := text) (own := own) c1 c2 c8 c4 hT.1 hT.2.1 (c5 _ hT.2.2.1) (c5 _ hT.2.2.2.1) hsa (th_hat hT c5 c6) hT.2.2.2.2.2 (old_Zq c6 E0 c6.2.2.2.2.2.2.2.1.1) (old_Zq c6 E0 c6.2.2.2.2.2.2.2.1.2) hSs (by rw [c3, ← hlen]; exact hl.1) d0 d3 d4 d6 d9 (fun x hx => (hex x hx).elim) (by rw [c9]; exact hf) (by rw [c10]; exact hlo) z.1 z.2 c7
    (fun t _ g1 g2 g3 g4 => by
      obtain ⟨k1, k2, k3, k4, k5⟩ := nX_C h.1 g1 g2 g3 g4 p1 p2
      exact ⟨_, p3 _ _ k1 k2 k3 k4, k5⟩) h.2.1 zz.1 zz.2
theorem th_of {own : String} {ik ic : Nat} {E : String} (h0 : (Bundle.fit E && nmsE.all Bundle.fit) = true) (h1 : Cond.classLink own ik E ∈ gtbl) (h2 : Cond.initialized E ∈ gtbl) (h3 : (vx_atS own ic E nmsE).all (fun w => decide (w ∈ lw_tbl) && (goodWord w || nkw w)) = true) (h4 : (Cond.classLink own ik E :: Cond.initialized E :: vx_atS own ic E nmsE).all vx_ot = true) : TH own ik ic E := by
  rw [Bool.and_eq_true] at h0
  refine ⟨h0.1, List.all_eq_true.mp h0.2, h1, h2, fun w hw => ?_, List.all_eq_true.mp h4⟩
  have h := List.all_eq_true.mp h3 w hw
  rw [Bool.and_eq_true, Bool.or_eq_true] at h
  exact ⟨of_decide_eq_true h.1, h.2⟩
end AUX3
