/-! ===== the machine over the pure heap ===== -/
abbrev Kt : Type := Program × Launch × Env × Room × State × MethodId × Array Value × List Frame × Method × Code
def kP (K : Kt) : Program := K.1
def kL (K : Kt) : Launch := K.2.1
def kE (K : Kt) : Env := K.2.2.1
def kR (K : Kt) : Room := K.2.2.2.1
def kS (K : Kt) : State := K.2.2.2.2.1
def kM (K : Kt) : MethodId := K.2.2.2.2.2.1
def kA (K : Kt) : Array Value := K.2.2.2.2.2.2.1
def kB (K : Kt) : List Frame := K.2.2.2.2.2.2.2.1
def kT (K : Kt) : Method := K.2.2.2.2.2.2.2.2.1
def kC (K : Kt) : Code := K.2.2.2.2.2.2.2.2.2
def kW (K : Kt) (H : Heap) (locs : List Loc) (cells slots : Nat) (Q : State → Prop) (g : JFrame) : Prop := W (kP K) (kL K) (kE K) (kR K) (kS K) (kM K) (kA K) (kB K) (kT K) (kC K) H locs cells slots Q g
def kV (K : Kt) (H : Heap) (locs : List Loc) (cells slots : Nat) (Q : State → Prop) (g : JFrame) (q : Addr) : Prop := vx_W (kP K) (kL K) (kE K) (kR K) (kS K) (kM K) (kA K) (kB K) (kT K) (kC K) H locs cells slots Q g q
def gtbl : List Cond := lw_tbl.filter goodWord
theorem gm {w : Cond} (i : Nat) (h : lw_tbl[i]? = some w) (hg : goodWord w = true) : w ∈ gtbl := List.mem_filter.mpr ⟨List.mem_of_getElem? h, hg⟩
theorem gtbl_good {w : Cond} (h : w ∈ gtbl) : goodWord w = true := (List.mem_filter.mp h).2
def nkw (w : Cond) : Bool := match w with
  | .castable .. => true
  | .methodLinkNest .. => true
  | .declares .. => true
  | _ => false
theorem nkw_warm {w : Cond} {s U : State} (hw : nkw w = true) (hW : s.WarmedH U.vm) (h : va_Nw w s) : va_Nw w U := by
  cases w <;> first | exact va_Nw.warmC hW h | exact va_Nw.warmM hW h | exact va_Nw.warmD hW h | (simp [nkw] at hw)
def lst0 (j : Nat) : Int32 := ([0, 1, 0, 0, 0] : List Int32).getD j 0
def lst1 (j : Nat) : Int32 := ([10000, 1000, 3, 1000, 1] : List Int32).getD j 0
/-- what the tables and the old heap say, and what stays so -/
def KF (X : Xt) (U : State) : Prop := va_K (xD X) vwCl (xT X) U ∧ (∀ w ∈ lw_tbl, nkw w = true → va_Nw w U) ∧ (∀ (own : String) (k : Nat) (tx : String), Cond.stringRef own k tx ∈ lw_tbl → ∃ sa, vk_R own k tx sa U) ∧ (va_AO "java/lang/Object" U ∧ va_AO "RegisterGateway$Device" U) ∧
  (va_Z RJx4a65c "DEFAULTCAPACITY_EMPTY_ELEMENTDATA" "[Ljava/lang/Object;" (.ref (xde X)) (xA X) U (xH X) ∧ va_T (.object "java/lang/Object") (xde X) 0 (fun _ => .null) (xA X) U (xH X)) ∧
  (va_Z RX9 "LEAST_SETTING" "[I" (.ref (xs0 X)) (xA X) U (xH X) ∧ va_T .int (xs0 X) 5 (fun j => .int (lst0 j)) (xA X) U (xH X)) ∧ (va_Z RX9 "GREATEST_SETTING" "[I" (.ref (xs1 X)) (xA X) U (xH X) ∧ va_T .int (xs1 X) 5 (fun j => .int (lst1 j)) (xA X) U (xH X)) ∧
  (vx_Zq Bundle.tN "UNASSIGNED_STACK" Bundle.steD (xA X) U (xH X) ∧ vx_Zq Bundle.tN "SUPPRESSED_SENTINEL" Bundle.listD (xA X) U (xH X)) ∧ (va_Mi "[Ljava/lang/Object;" (xmi X) U ∧ va_Dc U) ∧
  (va_Nc "java/lang/IllegalArgumentException" "java/lang/IndexOutOfBoundsException" U ∧ va_Nc "java/lang/IllegalStateException" "java/lang/IndexOutOfBoundsException" U ∧ va_Nc "java/lang/IllegalStateException" "java/lang/IllegalArgumentException" U) ∧ xN X = (xH X).size
theorem KF.warm {X : Xt} {s U : State} (hW : s.WarmedH U.vm) (h : KF X s) : KF X U := by
  obtain ⟨h1, h2, h3, ⟨h4, h5⟩, ⟨h6, h7⟩, ⟨h8, h9⟩, ⟨h10, h11⟩, ⟨h12, h13⟩, ⟨h14, h15⟩, ⟨h16, h17, h18⟩, h19⟩ := h
  have v := hW.alike
  exact ⟨va_K.moved v h1, fun w hw hn => nkw_warm hn hW (h2 w hw hn), fun own k tx hm => by obtain ⟨sa, q⟩ := h3 own k tx hm; exact ⟨sa, vk_R.warm hW q⟩, ⟨va_AO.moved v h4, va_AO.moved v h5⟩, ⟨va_Z.moved v h6, va_T.moved v h7⟩, ⟨va_Z.moved v h8, va_T.moved v h9⟩, ⟨va_Z.moved v h10, va_T.moved v h11⟩, ⟨vx_Zq.moved v h12, vx_Zq.moved v h13⟩, ⟨va_Mi.moved v h14, va_Dc.moved v h15⟩, ⟨va_Nc.moved v h16, va_Nc.moved v h17, va_Nc.moved v h18⟩, h19⟩
/-- a method's body: the machine, its code, the words, the room -/
def Cx (X : Xt) (K : Kt) (cc : ByteArray) (nL : Nat) (own : String) (fr lo : Nat) : Prop :=
  (kP K).tables.exec = Jvm.exec ∧ (kC K).code = cc ∧ (kC K).maxLocals = nL ∧ (kS K).vm.findClass own = some (kM K).cls ∧ (∀ w ∈ gtbl, w.before (kA K) (kS K) = true) ∧ KF X (kS K) ∧ (kT K).locks = false ∧ (kL K).stackTraces = false ∧
  (kR K).frames = fr ∧ (kR K).locals = lo ∧ (kR K).cells = xC X - (kS K).heap.size ∧ (kR K).slots = xS X - hU (kS K).heap
/-! locals as a list -/
def lvp : Nat → List (Option Value) → List (Nat × Value)
  | _, [] => []
  | i, none :: r => lvp (i + 1) r
  | i, some v :: r => (i, v) :: lvp (i + 1) r
def lh (ls : Array Slot) (lv : List (Option Value)) : Prop := lv_has ls lv.length (lvp 0 lv)
theorem lvp_mem : ∀ (lv : List (Option Value)) (k : Nat) (q : Nat × Value), q ∈ lvp k lv ↔ k ≤ q.1 ∧ lv[q.1 - k]? = some (some q.2) := by
  intro lv
  induction lv with
  | nil => intro k q; simp [lvp]
  | cons o r ih =>
    intro k q
    cases o with
    | none =>
      show q ∈ lvp (k + 1) r ↔ _
      rw [ih]
      constructor
      · intro h
        refine ⟨by omega, ?_⟩
        rw [show q.1 - k = (q.1 - (k + 1)) + 1 by omega, List.getElem?_cons_succ]
        exact h.2
      · intro h
        by_cases e : q.1 = k
        · rw [e, Nat.sub_self] at h; simp at h
        · refine ⟨by omega, ?_⟩
          have h2 := h.2
          rw [show q.1 - k = (q.1 - (k + 1)) + 1 by omega, List.getElem?_cons_succ] at h2
          exact h2
    | some v =>
      show q ∈ (k, v) :: lvp (k + 1) r ↔ _
      rw [List.mem_cons, ih]
      constructor
      · intro h
        rcases h with h | h
        · rw [h]; simp
        · refine ⟨by omega, ?_⟩
          rw [show q.1 - k = (q.1 - (k + 1)) + 1 by omega, List.getElem?_cons_succ]
          exact h.2
      · intro h
        by_cases e : q.1 = k
        · left
          have h2 := h.2
          rw [e, Nat.sub_self, List.getElem?_cons_zero] at h2
          have h3 : v = q.2 := Option.some.inj (Option.some.inj h2)
          rw [h3, ← e]
        · right
          refine ⟨by omega, ?_⟩
          have h2 := h.2
          rw [show q.1 - k = (q.1 - (k + 1)) + 1 by omega, List.getElem?_cons_succ] at h2
          exact h2
theorem lh_at {ls : Array Slot} {lv : List (Option Value)} (h : lh ls lv) {i : Nat} {v : Value} (hi : lv[i]? = some (some v)) : ls[i]? = some (.val v) := h.2.2 (i, v) ((lvp_mem lv 0 (i, v)).mpr ⟨Nat.zero_le _, hi⟩)
/-- no value of two words right before place i -/
def ok1 (lv : List (Option Value)) (i : Nat) : Bool := match i with
  | 0 => true
  | j + 1 => match lv[j]? with
    | some (some (.long _)) => false
    | some (some (.double _)) => false
    | _ => true
theorem ok1_cat {lv : List (Option Value)} {i j : Nat} {w : Value} (h : ok1 lv i = true) (hj : j + 1 = i) (hw : lv[j]? = some (some w)) : ¬ w.category = 2 := by
  subst hj
  intro hc
  cases w <;> first | (simp [Value.category] at hc; done) | (simp [ok1, hw] at h; done)
theorem lh_set1 {ls : Array Slot} {lv : List (Option Value)} {i : Nat} {v : Value} (h : lv_has ls lv.length ((i, v) :: (lvp 0 lv).filter (fun q => !(q.1 == i) && !(q.1 + 1 == i && q.2.category == 2)))) (ho : ok1 lv i = true) : lh ls (lv.set i (some v)) := by
  obtain ⟨h1, h2, h3⟩ := h
  refine ⟨by rw [List.length_set]; exact h1, h2, fun q hq => h3 q ?_⟩
  have hq2 := ((lvp_mem _ 0 q).mp hq).2
  rw [Nat.sub_zero] at hq2
  rw [List.mem_cons]
  by_cases e : q.1 = i
  · left
    by_cases hl : i < lv.length
    · rw [e, List.getElem?_set_self hl] at hq2
      have h4 : v = q.2 := Option.some.inj (Option.some.inj hq2)
      rw [h4, ← e]
    · rw [e, List.getElem?_eq_none (by rw [List.length_set]; omega)] at hq2; cases hq2
  · right
    rw [List.getElem?_set_ne (fun z => e z.symm)] at hq2
    refine List.mem_filter.mpr ⟨(lvp_mem lv 0 q).mpr ⟨Nat.zero_le _, hq2⟩, ?_⟩
    have e1 : (q.1 == i) = false := by simp [e]
    rw [e1]
    by_cases e2 : q.1 + 1 = i
    · have := ok1_cat ho e2 hq2
      simp [this]
    · have e3 : (q.1 + 1 == i) = false := by simp [e2]
      rw [e3]; rfl
theorem lh_set2 {ls : Array Slot} {lv : List (Option Value)} {i : Nat} {v : Value} (h : lv_has ls lv.length ((i, v) :: (lvp 0 lv).filter (fun q => !(q.1 == i) && (!(q.1 == i + 1) && !(q.1 + 1 == i && q.2.category == 2))))) (ho : ok1 lv i = true) : lh ls ((lv.set i (some v)).set (i + 1) none) := by
  obtain ⟨h1, h2, h3⟩ := h
  refine ⟨by rw [List.length_set, List.length_set]; exact h1, h2, fun q hq => h3 q ?_⟩
  have hq2 := ((lvp_mem _ 0 q).mp hq).2
  rw [Nat.sub_zero] at hq2
  have e0 : q.1 ≠ i + 1 := by
    intro e
    rw [e] at hq2
    by_cases hl : i + 1 < lv.length
    · rw [List.getElem?_set_self (by rw [List.length_set]; exact hl)] at hq2; cases hq2
    · rw [List.getElem?_eq_none (by rw [List.length_set, List.length_set]; omega)] at hq2; cases hq2
  rw [List.getElem?_set_ne (fun z => e0 z.symm)] at hq2
  rw [List.mem_cons]
  by_cases e : q.1 = i
  · left
    by_cases hl : i < lv.length
    · rw [e, List.getElem?_set_self hl] at hq2
      have h4 : v = q.2 := Option.some.inj (Option.some.inj hq2)
      rw [h4, ← e]
    · rw [e, List.getElem?_eq_none (by rw [List.length_set]; omega)] at hq2; cases hq2
  · right
    rw [List.getElem?_set_ne (fun z => e z.symm)] at hq2
    refine List.mem_filter.mpr ⟨(lvp_mem lv 0 q).mpr ⟨Nat.zero_le _, hq2⟩, ?_⟩
    have e1 : (q.1 == i) = false := by simp [e]
    have e4 : (q.1 == i + 1) = false := by simp [e0]
    rw [e1, e4]
    by_cases e2 : q.1 + 1 = i
    · have := ok1_cat ho e2 hq2
      simp [this]
    · have e3 : (q.1 + 1 == i) = false := by simp [e2]
      rw [e3]; rfl
/-- what stands at a place of a list, by reduction -/
theorem lh_forget {ls : Array Slot} {lv lv' : List (Option Value)} (h : lh ls lv) (hl : lv'.length = lv.length) (hs : ∀ (i : Nat) (v : Value), lv'[i]? = some (some v) → lv[i]? = some (some v)) : lh ls lv' := by
  refine ⟨by rw [hl]; exact h.1, h.2.1, fun q hq => ?_⟩
  have hq2 := ((lvp_mem _ 0 q).mp hq).2
  rw [Nat.sub_zero] at hq2
  exact lh_at h (hs _ _ hq2)
/-- the machine at pc, over the picture G -/
def hM (X : Xt) (K : Kt) (G : Gt) (H : Heap) (locs : List Loc) : Prop := hC X G H ∧ (∀ q ∈ locs, xN X ≤ q.base) ∧ (kS K).heap.size ≤ gH G ∧ hU (kS K).heap ≤ gU G
def WM (X : Xt) (K : Kt) (Q : State → Prop) (G : Gt) (pc : Nat) (lv : List (Option Value)) (st : List Value) : Prop :=
  ∀ (H : Heap) (locs : List Loc) (ls : Array Slot), hM X K G H locs → lh ls lv → kW K H locs (gH G - (kS K).heap.size) (gU G - hU (kS K).heap) Q (F0 (kM K) pc ls st)
section ROWS
variable {X : Xt} {K : Kt} {Q : State → Prop} {G : Gt} {pc : Nat} {lv : List (Option Value)} {st : List Value} {cc : ByteArray} {nL : Nat} {own : String} {fr lo : Nat}
theorem r_iadd (C : Cx X K cc nL own fr lo) {x y : Int32} (hd : decode cc pc = .ok (.iadd, 1)) (k : WM X K Q G (pc + 1) lv (.int (x + y) :: st)) : WM X K Q G pc lv (.int y :: .int x :: st) := fun H locs ls h hl => lv_iadd C.1 C.2.1 hd (k H locs ls h hl)
theorem r_isub (C : Cx X K cc nL own fr lo) {x y : Int32} (hd : decode cc pc = .ok (.isub, 1)) (k : WM X K Q G (pc + 1) lv (.int (x - y) :: st)) : WM X K Q G pc lv (.int y :: .int x :: st) := fun H locs ls h hl => lv_isub C.1 C.2.1 hd (k H locs ls h hl)
theorem r_imul (C : Cx X K cc nL own fr lo) {x y : Int32} (hd : decode cc pc = .ok (.imul, 1)) (k : WM X K Q G (pc + 1) lv (.int (x * y) :: st)) : WM X K Q G pc lv (.int y :: .int x :: st) := fun H locs ls h hl => lv_imul C.1 C.2.1 hd (k H locs ls h hl)
theorem r_iand (C : Cx X K cc nL own fr lo) {x y : Int32} (hd : decode cc pc = .ok (.iand, 1)) (k : WM X K Q G (pc + 1) lv (.int (x &&& y) :: st)) : WM X K Q G pc lv (.int y :: .int x :: st) := fun H locs ls h hl => lv_iand C.1 C.2.1 hd (k H locs ls h hl)
theorem r_ior (C : Cx X K cc nL own fr lo) {x y : Int32} (hd : decode cc pc = .ok (.ior, 1)) (k : WM X K Q G (pc + 1) lv (.int (x ||| y) :: st)) : WM X K Q G pc lv (.int y :: .int x :: st) := fun H locs ls h hl => lv_ior C.1 C.2.1 hd (k H locs ls h hl)
theorem r_ixor (C : Cx X K cc nL own fr lo) {x y : Int32} (hd : decode cc pc = .ok (.ixor, 1)) (k : WM X K Q G (pc + 1) lv (.int (x ^^^ y) :: st)) : WM X K Q G pc lv (.int y :: .int x :: st) := fun H locs ls h hl => lv_ixor C.1 C.2.1 hd (k H locs ls h hl)
theorem r_ladd (C : Cx X K cc nL own fr lo) {x y : Int64} (hd : decode cc pc = .ok (.ladd, 1)) (k : WM X K Q G (pc + 1) lv (.long (x + y) :: st)) : WM X K Q G pc lv (.long y :: .long x :: st) := fun H locs ls h hl => lv_ladd C.1 C.2.1 hd (k H locs ls h hl)
theorem r_lsub (C : Cx X K cc nL own fr lo) {x y : Int64} (hd : decode cc pc = .ok (.lsub, 1)) (k : WM X K Q G (pc + 1) lv (.long (x - y) :: st)) : WM X K Q G pc lv (.long y :: .long x :: st) := fun H locs ls h hl => lv_lsub C.1 C.2.1 hd (k H locs ls h hl)
theorem r_lmul (C : Cx X K cc nL own fr lo) {x y : Int64} (hd : decode cc pc = .ok (.lmul, 1)) (k : WM X K Q G (pc + 1) lv (.long (x * y) :: st)) : WM X K Q G pc lv (.long y :: .long x :: st) := fun H locs ls h hl => lv_lmul C.1 C.2.1 hd (k H locs ls h hl)
theorem r_land (C : Cx X K cc nL own fr lo) {x y : Int64} (hd : decode cc pc = .ok (.land, 1)) (k : WM X K Q G (pc + 1) lv (.long (x &&& y) :: st)) : WM X K Q G pc lv (.long y :: .long x :: st) := fun H locs ls h hl => lv_land C.1 C.2.1 hd (k H locs ls h hl)
theorem r_lor (C : Cx X K cc nL own fr lo) {x y : Int64} (hd : decode cc pc = .ok (.lor, 1)) (k : WM X K Q G (pc + 1) lv (.long (x ||| y) :: st)) : WM X K Q G pc lv (.long y :: .long x :: st) := fun H locs ls h hl => lv_lor C.1 C.2.1 hd (k H locs ls h hl)
theorem r_irem (C : Cx X K cc nL own fr lo) {x y : Int32} (hd : decode cc pc = .ok (.irem, 1)) (hne : ¬ y = 0) (k : WM X K Q G (pc + 1) lv (.int (x - x / y * y) :: st)) : WM X K Q G pc lv (.int y :: .int x :: st) := fun H locs ls h hl => lv_irem C.1 C.2.1 hd hne (k H locs ls h hl)
theorem r_idiv (C : Cx X K cc nL own fr lo) {x y : Int32} (hd : decode cc pc = .ok (.idiv, 1)) (hne : ¬ y = 0) (k : WM X K Q G (pc + 1) lv (.int (x / y) :: st)) : WM X K Q G pc lv (.int y :: .int x :: st) := fun H locs ls h hl => lv_idiv C.1 C.2.1 hd hne (k H locs ls h hl)
theorem r_ishl (C : Cx X K cc nL own fr lo) {x y : Int32} (hd : decode cc pc = .ok (.ishl, 1)) (k : WM X K Q G (pc + 1) lv (.int (x <<< (y &&& 31)) :: st)) : WM X K Q G pc lv (.int y :: .int x :: st) := fun H locs ls h hl => lv_ishl C.1 C.2.1 hd (k H locs ls h hl)
theorem r_ishr (C : Cx X K cc nL own fr lo) {x y : Int32} (hd : decode cc pc = .ok (.ishr, 1)) (k : WM X K Q G (pc + 1) lv (.int (x >>> (y &&& 31)) :: st)) : WM X K Q G pc lv (.int y :: .int x :: st) := fun H locs ls h hl => lv_ishr C.1 C.2.1 hd (k H locs ls h hl)
theorem r_iushr (C : Cx X K cc nL own fr lo) {x y : Int32} (hd : decode cc pc = .ok (.iushr, 1)) (k : WM X K Q G (pc + 1) lv (.int ((x.toUInt32 >>> (y.toUInt32 &&& Int32.toUInt32 31)).toInt32) :: st)) : WM X K Q G pc lv (.int y :: .int x :: st) := fun H locs ls h hl => lv_iushr C.1 C.2.1 hd rfl (k H locs ls h hl)
theorem r_lushr (C : Cx X K cc nL own fr lo) {x : Int64} {y : Int32} (hd : decode cc pc = .ok (.lushr, 1)) (k : WM X K Q G (pc + 1) lv (.long ((x.toUInt64 >>> (y.toInt64.toUInt64 &&& Int64.toUInt64 63)).toInt64) :: st)) : WM X K Q G pc lv (.int y :: .long x :: st) := fun H locs ls h hl => lv_lushr C.1 C.2.1 hd rfl (k H locs ls h hl)
theorem r_lshl (C : Cx X K cc nL own fr lo) {x : Int64} {y : Int32} (hd : decode cc pc = .ok (.lshl, 1)) (k : WM X K Q G (pc + 1) lv (.long (x <<< (y.toInt64 &&& 63)) :: st)) : WM X K Q G pc lv (.int y :: .long x :: st) := fun H locs ls h hl => lv_lshl C.1 C.2.1 hd rfl (k H locs ls h hl)
theorem r_lshr (C : Cx X K cc nL own fr lo) {x : Int64} {y : Int32} (hd : decode cc pc = .ok (.lshr, 1)) (k : WM X K Q G (pc + 1) lv (.long (x >>> (y.toInt64 &&& 63)) :: st)) : WM X K Q G pc lv (.int y :: .long x :: st) := fun H locs ls h hl => lv_lshr C.1 C.2.1 hd rfl (k H locs ls h hl)
theorem r_i2l (C : Cx X K cc nL own fr lo) {x : Int32} (hd : decode cc pc = .ok (.i2l, 1)) (k : WM X K Q G (pc + 1) lv (.long x.toInt64 :: st)) : WM X K Q G pc lv (.int x :: st) := fun H locs ls h hl => lv_i2l C.1 C.2.1 hd rfl (k H locs ls h hl)
theorem r_l2i (C : Cx X K cc nL own fr lo) {x : Int64} (hd : decode cc pc = .ok (.l2i, 1)) (k : WM X K Q G (pc + 1) lv (.int x.toInt32 :: st)) : WM X K Q G pc lv (.long x :: st) := fun H locs ls h hl => lv_l2i C.1 C.2.1 hd rfl (k H locs ls h hl)
theorem r_lcmp (C : Cx X K cc nL own fr lo) {x y : Int64} (hd : decode cc pc = .ok (.lcmp, 1)) (k : WM X K Q G (pc + 1) lv (.int (lg_cmp x y) :: st)) : WM X K Q G pc lv (.long y :: .long x :: st) := fun H locs ls h hl => W.lcmp C.1 C.2.1 hd (k H locs ls h hl)
theorem r_dup (C : Cx X K cc nL own fr lo) {v : Value} (hd : decode cc pc = .ok (.dup, 1)) (h1 : v.category = 1) (k : WM X K Q G (pc + 1) lv (v :: v :: st)) : WM X K Q G pc lv (v :: st) := fun H locs ls h hl => lv_dup C.1 C.2.1 hd h1 (k H locs ls h hl)
theorem r_dup_x1 (C : Cx X K cc nL own fr lo) {v u : Value} (hd : decode cc pc = .ok (.dup_x1, 1)) (h1 : v.category = 1) (h2 : u.category = 1) (k : WM X K Q G (pc + 1) lv (v :: u :: v :: st)) : WM X K Q G pc lv (v :: u :: st) := fun H locs ls h hl => lv_dup_x1 C.1 C.2.1 hd h1 h2 (k H locs ls h hl)
theorem r_dup2 (C : Cx X K cc nL own fr lo) {v u : Value} (hd : decode cc pc = .ok (.dup2, 1)) (h1 : v.category = 1) (h2 : u.category = 1) (k : WM X K Q G (pc + 1) lv (v :: u :: v :: u :: st)) : WM X K Q G pc lv (v :: u :: st) := fun H locs ls h hl => lv_dup2_11 C.1 C.2.1 hd h1 h2 (k H locs ls h hl)
theorem r_pop (C : Cx X K cc nL own fr lo) {v : Value} (hd : decode cc pc = .ok (.pop, 1)) (h1 : v.category = 1) (k : WM X K Q G (pc + 1) lv (st)) : WM X K Q G pc lv (v :: st) := fun H locs ls h hl => lv_pop C.1 C.2.1 hd h1 (k H locs ls h hl)
theorem r_aconst_null (C : Cx X K cc nL own fr lo)  (hd : decode cc pc = .ok (.aconst_null, 1)) (k : WM X K Q G (pc + 1) lv (.null :: st)) : WM X K Q G pc lv (st) := fun H locs ls h hl => lv_null C.1 C.2.1 hd (k H locs ls h hl)
theorem r_iconst (C : Cx X K cc nL own fr lo) {n : Int} (v : Int32) (hd : decode cc pc = .ok (.iconst n, 1)) (hv : Int32.ofInt n = v) (k : WM X K Q G (pc + 1) lv (.int v :: st)) : WM X K Q G pc lv (st) := fun H locs ls h hl => lv_iconst C.1 C.2.1 hd hv (k H locs ls h hl)
theorem r_bipush (C : Cx X K cc nL own fr lo) {n : Int} (v : Int32) (hd : decode cc pc = .ok (.bipush n, 2)) (hv : (Int8.ofInt n).toInt32 = v) (k : WM X K Q G (pc + 2) lv (.int v :: st)) : WM X K Q G pc lv (st) := fun H locs ls h hl => lv_bipush C.1 C.2.1 hd hv (k H locs ls h hl)
theorem r_sipush (C : Cx X K cc nL own fr lo) {n : Int} (v : Int32) (hd : decode cc pc = .ok (.sipush n, 3)) (hv : (Int16.ofInt n).toInt32 = v) (k : WM X K Q G (pc + 3) lv (.int v :: st)) : WM X K Q G pc lv (st) := fun H locs ls h hl => lv_sipush C.1 C.2.1 hd hv (k H locs ls h hl)
theorem r_lconst (C : Cx X K cc nL own fr lo) {n : Fin 2} (v : Int64) (hd : decode cc pc = .ok (.lconst n, 1)) (hv : Int64.ofNat (n : Nat) = v) (k : WM X K Q G (pc + 1) lv (.long v :: st)) : WM X K Q G pc lv (st) := fun H locs ls h hl => lv_lconst C.1 C.2.1 hd hv (k H locs ls h hl)
theorem r_ldc (C : Cx X K cc nL own fr lo) {i : Nat} {v : Int32} (hc : Cond.constant own i v ∈ gtbl) (hd : decode cc pc = .ok (.ldc i, 2)) (k : WM X K Q G (pc + 2) lv (.int v :: st)) : WM X K Q G pc lv st := fun H locs ls h hl => lv_ldc C.1 C.2.1 C.2.2.2.1 (C.2.2.2.2.1 _ hc) hd (k H locs ls h hl)
theorem r_ldc2 (C : Cx X K cc nL own fr lo) {i : Nat} {v : Int64} (hc : Cond.constantLong own i v ∈ gtbl) (hd : decode cc pc = .ok (.ldc2_w i, 3)) (k : WM X K Q G (pc + 3) lv (.long v :: st)) : WM X K Q G pc lv st := fun H locs ls h hl => lv_ldc2 C.1 C.2.1 C.2.2.2.1 (C.2.2.2.2.1 _ hc) hd (k H locs ls h hl)
theorem r_iload_n (C : Cx X K cc nL own fr lo) {j : Fin 4} (i : Nat) {x : Int32} (hd : decode cc pc = .ok (.iload_n j, 1)) (hj : (j : Nat) = i) (hv : lv[i]? = some (some (.int x))) (k : WM X K Q G (pc + 1) lv (.int x :: st)) : WM X K Q G pc lv st := fun H locs ls h hl => lv_iload_n C.1 C.2.1 hd hj (lh_at hl hv) (k H locs ls h hl)
theorem r_iload (C : Cx X K cc nL own fr lo) {i : Nat} {x : Int32} (hd : decode cc pc = .ok (.iload i, 2)) (hv : lv[i]? = some (some (.int x))) (k : WM X K Q G (pc + 2) lv (.int x :: st)) : WM X K Q G pc lv st := fun H locs ls h hl => lv_iload C.1 C.2.1 hd (lh_at hl hv) (k H locs ls h hl)
theorem r_lload_n (C : Cx X K cc nL own fr lo) {j : Fin 4} (i : Nat) {x : Int64} (hd : decode cc pc = .ok (.lload_n j, 1)) (hj : (j : Nat) = i) (hv : lv[i]? = some (some (.long x))) (k : WM X K Q G (pc + 1) lv (.long x :: st)) : WM X K Q G pc lv st := fun H locs ls h hl => lv_lload_n C.1 C.2.1 hd hj (lh_at hl hv) (k H locs ls h hl)
theorem r_lload (C : Cx X K cc nL own fr lo) {i : Nat} {x : Int64} (hd : decode cc pc = .ok (.lload i, 2)) (hv : lv[i]? = some (some (.long x))) (k : WM X K Q G (pc + 2) lv (.long x :: st)) : WM X K Q G pc lv st := fun H locs ls h hl => lv_lload C.1 C.2.1 hd (lh_at hl hv) (k H locs ls h hl)
theorem va_rf_cases (x : Option Nat) : va_rf x = .null ∨ ∃ a, va_rf x = .ref a := by
  cases x with
  | none => exact Or.inl rfl
  | some a => exact Or.inr ⟨a, rfl⟩
theorem r_aload_n (C : Cx X K cc nL own fr lo) {j : Fin 4} (i : Nat) {x : Option Nat} (hd : decode cc pc = .ok (.aload_n j, 1)) (hj : (j : Nat) = i) (hv : lv[i]? = some (some (va_rf x))) (k : WM X K Q G (pc + 1) lv (va_rf x :: st)) : WM X K Q G pc lv st := fun H locs ls h hl => by
  cases x with
  | none => exact lv_aload_nN C.1 C.2.1 hd hj (lh_at hl hv) (k H locs ls h hl)
  | some a => exact lv_aload_n C.1 C.2.1 hd hj (lh_at hl hv) (k H locs ls h hl)
theorem r_aload (C : Cx X K cc nL own fr lo) {i : Nat} {x : Option Nat} (hd : decode cc pc = .ok (.aload i, 2)) (hv : lv[i]? = some (some (va_rf x))) (k : WM X K Q G (pc + 2) lv (va_rf x :: st)) : WM X K Q G pc lv st := fun H locs ls h hl => by
  cases x with
  | none => exact lv_aloadN C.1 C.2.1 hd (lh_at hl hv) (k H locs ls h hl)
  | some a => exact lv_aload C.1 C.2.1 hd (lh_at hl hv) (k H locs ls h hl)
theorem r_istore_n (C : Cx X K cc nL own fr lo) {j : Fin 4} (i : Nat) {x : Int32} {lv' : List (Option Value)} (hd : decode cc pc = .ok (.istore_n j, 1)) (hj : (j : Nat) = i) (hn : i < lv.length) (ho : ok1 lv i = true) (he : lv.set i (some (.int x)) = lv') (k : WM X K Q G (pc + 1) lv' st) : WM X K Q G pc lv (.int x :: st) := fun H locs ls h hl => lv_istore_n C.1 C.2.1 hd hj hl hn rfl (fun ls' hl' => k H locs ls' h (he ▸ lh_set1 hl' ho))
theorem r_istore (C : Cx X K cc nL own fr lo) {i : Nat} {x : Int32} {lv' : List (Option Value)} (hd : decode cc pc = .ok (.istore i, 2)) (hn : i < lv.length) (ho : ok1 lv i = true) (he : lv.set i (some (.int x)) = lv') (k : WM X K Q G (pc + 2) lv' st) : WM X K Q G pc lv (.int x :: st) := fun H locs ls h hl => lv_istore C.1 C.2.1 hd hl hn rfl (fun ls' hl' => k H locs ls' h (he ▸ lh_set1 hl' ho))
theorem r_astore_n (C : Cx X K cc nL own fr lo) {j : Fin 4} (i : Nat) {x : Option Nat} {lv' : List (Option Value)} (hd : decode cc pc = .ok (.astore_n j, 1)) (hj : (j : Nat) = i) (hn : i < lv.length) (ho : ok1 lv i = true) (he : lv.set i (some (va_rf x)) = lv') (k : WM X K Q G (pc + 1) lv' st) : WM X K Q G pc lv (va_rf x :: st) := fun H locs ls h hl => by
  cases x with
  | none => exact lv_astore_nN C.1 C.2.1 hd hj hl hn rfl (fun ls' hl' => k H locs ls' h (he ▸ lh_set1 hl' ho))
  | some a => exact lv_astore_n C.1 C.2.1 hd hj hl hn rfl (fun ls' hl' => k H locs ls' h (he ▸ lh_set1 hl' ho))
theorem r_astore (C : Cx X K cc nL own fr lo) {i : Nat} {x : Option Nat} {lv' : List (Option Value)} (hd : decode cc pc = .ok (.astore i, 2)) (hn : i < lv.length) (ho : ok1 lv i = true) (he : lv.set i (some (va_rf x)) = lv') (k : WM X K Q G (pc + 2) lv' st) : WM X K Q G pc lv (va_rf x :: st) := fun H locs ls h hl => by
  cases x with
  | none => exact lv_astoreN C.1 C.2.1 hd hl hn rfl (fun ls' hl' => k H locs ls' h (he ▸ lh_set1 hl' ho))
  | some a => exact lv_astore C.1 C.2.1 hd hl hn rfl (fun ls' hl' => k H locs ls' h (he ▸ lh_set1 hl' ho))
theorem r_lstore_n (C : Cx X K cc nL own fr lo) {j : Fin 4} (i : Nat) {x : Int64} {lv' : List (Option Value)} (hd : decode cc pc = .ok (.lstore_n j, 1)) (hj : (j : Nat) = i) (hn : i + 1 < lv.length) (ho : ok1 lv i = true) (he : (lv.set i (some (.long x))).set (i + 1) none = lv') (k : WM X K Q G (pc + 1) lv' st) : WM X K Q G pc lv (.long x :: st) := fun H locs ls h hl => lv_lstore_n C.1 C.2.1 hd hj hl hn rfl (fun ls' hl' => k H locs ls' h (he ▸ lh_set2 hl' ho))
theorem r_iinc (C : Cx X K cc nL own fr lo) {i : Nat} {n : Int} {x : Int32} (d : Int32) {lv' : List (Option Value)} (hd : decode cc pc = .ok (.iinc i n, 3)) (hv : lv[i]? = some (some (.int x))) (hn : Int32.ofInt n = d) (ho : ok1 lv i = true) (he : lv.set i (some (.int (x + d))) = lv') (k : WM X K Q G (pc + 3) lv' st) : WM X K Q G pc lv st := fun H locs ls h hl => by
  obtain ⟨k9, hk9⟩ := List.getElem?_of_mem ((lvp_mem lv 0 (i, .int x)).mpr ⟨Nat.zero_le _, hv⟩)
  exact lv_iinc (v := x + d) C.1 C.2.1 hd hl hk9 (by rw [hn]) (List.getElem?_eq_some_iff.mp hv).1 rfl (fun ls' hl' => k H locs ls' h (he ▸ lh_set1 hl' ho))
theorem r_goto (C : Cx X K cc nL own fr lo) {off : Int} (tgt : Nat) (hd : decode cc pc = .ok (.goto off, 3)) (ht : (pc : Int) + off = (tgt : Int)) (k : WM X K Q G tgt lv st) : WM X K Q G pc lv st := fun H locs ls h hl => lv_goto C.1 C.2.1 hd ht (k H locs ls h hl)
theorem r_forget {lv' : List (Option Value)} (k : WM X K Q G pc lv' st) (hl : lv'.length = lv.length) (hs : ∀ (i : Nat) (v : Value), lv'[i]? = some (some v) → lv[i]? = some (some v)) : WM X K Q G pc lv st := fun H locs ls h h2 => k H locs ls h (lh_forget h2 hl hs)
theorem r_if_eq (C : Cx X K cc nL own fr lo) {x : Int32} {off : Int} (tgt : Nat) (hd : decode cc pc = .ok (.ifCond .eq off, 3)) (ht : (pc : Int) + off = (tgt : Int)) (kt : x = 0 → WM X K Q G tgt lv st) (kf : ¬ (x = 0) → WM X K Q G (pc + 3) lv st) : WM X K Q G pc lv (.int x :: st) := fun H locs ls h hl => lv_if_eq C.1 C.2.1 hd ht (fun c => kt c H locs ls h hl) (fun c => kf c H locs ls h hl)
theorem r_icmp_eq (C : Cx X K cc nL own fr lo) {x y : Int32} {off : Int} (tgt : Nat) (hd : decode cc pc = .ok (.if_icmp .eq off, 3)) (ht : (pc : Int) + off = (tgt : Int)) (kt : x = y → WM X K Q G tgt lv st) (kf : ¬ (x = y) → WM X K Q G (pc + 3) lv st) : WM X K Q G pc lv (.int y :: .int x :: st) := fun H locs ls h hl => lv_icmp_eq C.1 C.2.1 hd ht (fun c => kt c H locs ls h hl) (fun c => kf c H locs ls h hl)
theorem r_if_ne (C : Cx X K cc nL own fr lo) {x : Int32} {off : Int} (tgt : Nat) (hd : decode cc pc = .ok (.ifCond .ne off, 3)) (ht : (pc : Int) + off = (tgt : Int)) (kt : ¬ x = 0 → WM X K Q G tgt lv st) (kf : x = 0 → WM X K Q G (pc + 3) lv st) : WM X K Q G pc lv (.int x :: st) := fun H locs ls h hl => lv_if_ne C.1 C.2.1 hd ht (fun c => kt c H locs ls h hl) (fun c => kf c H locs ls h hl)
theorem r_icmp_ne (C : Cx X K cc nL own fr lo) {x y : Int32} {off : Int} (tgt : Nat) (hd : decode cc pc = .ok (.if_icmp .ne off, 3)) (ht : (pc : Int) + off = (tgt : Int)) (kt : ¬ x = y → WM X K Q G tgt lv st) (kf : x = y → WM X K Q G (pc + 3) lv st) : WM X K Q G pc lv (.int y :: .int x :: st) := fun H locs ls h hl => lv_icmp_ne C.1 C.2.1 hd ht (fun c => kt c H locs ls h hl) (fun c => kf c H locs ls h hl)
theorem r_if_lt (C : Cx X K cc nL own fr lo) {x : Int32} {off : Int} (tgt : Nat) (hd : decode cc pc = .ok (.ifCond .lt off, 3)) (ht : (pc : Int) + off = (tgt : Int)) (kt : x < 0 → WM X K Q G tgt lv st) (kf : ¬ (x < 0) → WM X K Q G (pc + 3) lv st) : WM X K Q G pc lv (.int x :: st) := fun H locs ls h hl => lv_if_lt C.1 C.2.1 hd ht (fun c => kt c H locs ls h hl) (fun c => kf c H locs ls h hl)
theorem r_icmp_lt (C : Cx X K cc nL own fr lo) {x y : Int32} {off : Int} (tgt : Nat) (hd : decode cc pc = .ok (.if_icmp .lt off, 3)) (ht : (pc : Int) + off = (tgt : Int)) (kt : x < y → WM X K Q G tgt lv st) (kf : ¬ (x < y) → WM X K Q G (pc + 3) lv st) : WM X K Q G pc lv (.int y :: .int x :: st) := fun H locs ls h hl => lv_icmp_lt C.1 C.2.1 hd ht (fun c => kt c H locs ls h hl) (fun c => kf c H locs ls h hl)
theorem r_if_ge (C : Cx X K cc nL own fr lo) {x : Int32} {off : Int} (tgt : Nat) (hd : decode cc pc = .ok (.ifCond .ge off, 3)) (ht : (pc : Int) + off = (tgt : Int)) (kt : 0 ≤ x → WM X K Q G tgt lv st) (kf : ¬ (0 ≤ x) → WM X K Q G (pc + 3) lv st) : WM X K Q G pc lv (.int x :: st) := fun H locs ls h hl => lv_if_ge C.1 C.2.1 hd ht (fun c => kt c H locs ls h hl) (fun c => kf c H locs ls h hl)
theorem r_icmp_ge (C : Cx X K cc nL own fr lo) {x y : Int32} {off : Int} (tgt : Nat) (hd : decode cc pc = .ok (.if_icmp .ge off, 3)) (ht : (pc : Int) + off = (tgt : Int)) (kt : y ≤ x → WM X K Q G tgt lv st) (kf : ¬ (y ≤ x) → WM X K Q G (pc + 3) lv st) : WM X K Q G pc lv (.int y :: .int x :: st) := fun H locs ls h hl => lv_icmp_ge C.1 C.2.1 hd ht (fun c => kt c H locs ls h hl) (fun c => kf c H locs ls h hl)
theorem r_if_gt (C : Cx X K cc nL own fr lo) {x : Int32} {off : Int} (tgt : Nat) (hd : decode cc pc = .ok (.ifCond .gt off, 3)) (ht : (pc : Int) + off = (tgt : Int)) (kt : 0 < x → WM X K Q G tgt lv st) (kf : ¬ (0 < x) → WM X K Q G (pc + 3) lv st) : WM X K Q G pc lv (.int x :: st) := fun H locs ls h hl => lv_if_gt C.1 C.2.1 hd ht (fun c => kt c H locs ls h hl) (fun c => kf c H locs ls h hl)
theorem r_icmp_gt (C : Cx X K cc nL own fr lo) {x y : Int32} {off : Int} (tgt : Nat) (hd : decode cc pc = .ok (.if_icmp .gt off, 3)) (ht : (pc : Int) + off = (tgt : Int)) (kt : y < x → WM X K Q G tgt lv st) (kf : ¬ (y < x) → WM X K Q G (pc + 3) lv st) : WM X K Q G pc lv (.int y :: .int x :: st) := fun H locs ls h hl => lv_icmp_gt C.1 C.2.1 hd ht (fun c => kt c H locs ls h hl) (fun c => kf c H locs ls h hl)
theorem r_if_le (C : Cx X K cc nL own fr lo) {x : Int32} {off : Int} (tgt : Nat) (hd : decode cc pc = .ok (.ifCond .le off, 3)) (ht : (pc : Int) + off = (tgt : Int)) (kt : x ≤ 0 → WM X K Q G tgt lv st) (kf : ¬ (x ≤ 0) → WM X K Q G (pc + 3) lv st) : WM X K Q G pc lv (.int x :: st) := fun H locs ls h hl => lv_if_le C.1 C.2.1 hd ht (fun c => kt c H locs ls h hl) (fun c => kf c H locs ls h hl)
theorem r_icmp_le (C : Cx X K cc nL own fr lo) {x y : Int32} {off : Int} (tgt : Nat) (hd : decode cc pc = .ok (.if_icmp .le off, 3)) (ht : (pc : Int) + off = (tgt : Int)) (kt : x ≤ y → WM X K Q G tgt lv st) (kf : ¬ (x ≤ y) → WM X K Q G (pc + 3) lv st) : WM X K Q G pc lv (.int y :: .int x :: st) := fun H locs ls h hl => lv_icmp_le C.1 C.2.1 hd ht (fun c => kt c H locs ls h hl) (fun c => kf c H locs ls h hl)
theorem r_ifnull (C : Cx X K cc nL own fr lo) {x : Option Nat} {off : Int} (tgt : Nat) (hd : decode cc pc = .ok (.ifnull off, 3)) (ht : (pc : Int) + off = (tgt : Int)) (kt : x = none → WM X K Q G tgt lv st) (kf : ∀ b, x = some b → WM X K Q G (pc + 3) lv st) : WM X K Q G pc lv (va_rf x :: st) := fun H locs ls h hl => by
  cases x with
  | none => exact lv_ifnullN C.1 C.2.1 hd ht (kt rfl H locs ls h hl)
  | some a => exact lv_ifnull C.1 C.2.1 hd (kf a rfl H locs ls h hl)
theorem r_ifnonnull (C : Cx X K cc nL own fr lo) {x : Option Nat} {off : Int} (tgt : Nat) (hd : decode cc pc = .ok (.ifnonnull off, 3)) (ht : (pc : Int) + off = (tgt : Int)) (kt : ∀ b, x = some b → WM X K Q G tgt lv st) (kf : x = none → WM X K Q G (pc + 3) lv st) : WM X K Q G pc lv (va_rf x :: st) := fun H locs ls h hl => by
  cases x with
  | none => exact lv_ifnonnullN C.1 C.2.1 hd (kf rfl H locs ls h hl)
  | some a => exact lv_ifnonnull C.1 C.2.1 hd ht (kt a rfl H locs ls h hl)
theorem r_acmp_eq (C : Cx X K cc nL own fr lo) {x y : Option Nat} {off : Int} (tgt : Nat) (hd : decode cc pc = .ok (.if_acmp .eq off, 3)) (ht : (pc : Int) + off = (tgt : Int)) (kt : x = y → WM X K Q G tgt lv st) (kf : ¬ (x = y) → WM X K Q G (pc + 3) lv st) : WM X K Q G pc lv (va_rf y :: va_rf x :: st) := fun H locs ls h hl => lv_acmp_eq C.1 C.2.1 hd ht (fun c => kt c H locs ls h hl) (fun c => kf c H locs ls h hl)
theorem r_acmp_ne (C : Cx X K cc nL own fr lo) {x y : Option Nat} {off : Int} (tgt : Nat) (hd : decode cc pc = .ok (.if_acmp .ne off, 3)) (ht : (pc : Int) + off = (tgt : Int)) (kt : ¬ x = y → WM X K Q G tgt lv st) (kf : x = y → WM X K Q G (pc + 3) lv st) : WM X K Q G pc lv (va_rf y :: va_rf x :: st) := fun H locs ls h hl => lv_acmp_ne C.1 C.2.1 hd ht (fun c => kt c H locs ls h hl) (fun c => kf c H locs ls h hl)
theorem r_tableIn (C : Cx X K cc nL own fr lo) {dflt a b : Int} {offs : Array Int} {len : Nat} {x : Int32} {off : Int} (tgt : Nat) (hd : decode cc pc = .ok (.tableswitch dflt a b offs, len)) (h1 : ¬ x.toInt < a) (h2 : ¬ b < x.toInt) (ho : offs[(x.toInt - a).toNat]? = some off) (ht : (pc : Int) + off = (tgt : Int)) (k : WM X K Q G tgt lv st) : WM X K Q G pc lv (.int x :: st) := fun H locs ls h hl => lv_tableIn C.1 C.2.1 hd h1 h2 ho ht (k H locs ls h hl)
theorem r_tableOut (C : Cx X K cc nL own fr lo) {dflt a b : Int} {offs : Array Int} {len : Nat} {x : Int32} (tgt : Nat) (hd : decode cc pc = .ok (.tableswitch dflt a b offs, len)) (h1 : x.toInt < a ∨ b < x.toInt) (ht : (pc : Int) + dflt = (tgt : Int)) (k : WM X K Q G tgt lv st) : WM X K Q G pc lv (.int x :: st) := fun H locs ls h hl => lv_tableOut C.1 C.2.1 hd h1 ht (k H locs ls h hl)
end ROWS
