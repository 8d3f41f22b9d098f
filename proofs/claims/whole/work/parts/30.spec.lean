/-! ===== what frames and replies are ===== -/
def wrds (f : Nat → Nat) : Nat → List Nat
  | 0 => []
  | n + 1 => wrds f n ++ [f n / 256, f n % 256]
theorem wrds_len (f : Nat → Nat) : ∀ n, (wrds f n).length = 2 * n
  | 0 => rfl
  | n + 1 => by
    show (wrds f n ++ [f n / 256, f n % 256]).length = _
    rw [List.length_append, wrds_len f n]; simp; omega
theorem wrds_lt (f : Nat → Nat) (h : ∀ k, f k < 65536) : ∀ n, ∀ b ∈ wrds f n, b < 256
  | 0 => fun b hb => absurd hb (by simp [wrds])
  | n + 1 => fun b hb => by
    rcases List.mem_append.mp hb with z | z
    · exact wrds_lt f h n b z
    · have := h n
      simp at z
      rcases z with z | z <;> omega
theorem gd_app1 {l m : List Nat} {k : Nat} (h : k < l.length) : (l ++ m).getD k 0 = l.getD k 0 := by simp [List.getD, List.getElem?_append_left h]
theorem gd_app2 {l m : List Nat} {k : Nat} : (l ++ m).getD (l.length + k) 0 = m.getD k 0 := by
  simp [List.getD, List.getElem?_append_right]
theorem wrds_hi (f : Nat → Nat) : ∀ n k, k < n → (wrds f n).getD (2 * k) 0 = f k / 256
  | 0, k, h => absurd h (by omega)
  | n + 1, k, h => by
    show (wrds f n ++ [f n / 256, f n % 256]).getD (2 * k) 0 = _
    by_cases e : k = n
    · subst e
      have := gd_app2 (l := wrds f k) (m := [f k / 256, f k % 256]) (k := 0)
      rw [wrds_len] at this
      exact this
    · rw [gd_app1 (by rw [wrds_len]; omega)]
      exact wrds_hi f n k (by omega)
theorem wrds_lo (f : Nat → Nat) : ∀ n k, k < n → (wrds f n).getD (2 * k + 1) 0 = f k % 256
  | 0, k, h => absurd h (by omega)
  | n + 1, k, h => by
    show (wrds f n ++ [f n / 256, f n % 256]).getD (2 * k + 1) 0 = _
    by_cases e : k = n
    · subst e
      have := gd_app2 (l := wrds f k) (m := [f k / 256, f k % 256]) (k := 1)
      rw [wrds_len] at this
      exact this
    · rw [gd_app1 (by rw [wrds_len]; omega)]
      exact wrds_lo f n k (by omega)
theorem wrds_ext {f g : Nat → Nat} : ∀ {n : Nat}, (∀ k, k < n → f k = g k) → wrds f n = wrds g n
  | 0, _ => rfl
  | n + 1, h => by
    show wrds f n ++ [f n / 256, f n % 256] = wrds g n ++ [g n / 256, g n % 256]
    rw [wrds_ext (n := n) (fun k hk => h k (by omega)), h n (by omega)]
/-- with its checksum behind it -/
def seald (l : List Nat) : List Nat := l ++ [crcN 65535 l % 256, crcN 65535 l / 256]
theorem seal_len (l : List Nat) : (seald l).length = l.length + 2 := by simp [seald]
theorem seal_lt {l : List Nat} (h : ∀ b ∈ l, b < 256) : ∀ b ∈ seald l, b < 256 := fun b hb => by
  have hc := crcN_lt l 65535 (by decide) h
  rcases List.mem_append.mp hb with z | z
  · exact h b z
  · simp at z
    rcases z with z | z <;> omega
theorem seal_gd {l : List Nat} {k : Nat} (h : k < l.length) : (seald l).getD k 0 = l.getD k 0 := gd_app1 h
theorem seal_sum {l : List Nat} (h : ∀ b ∈ l, b < 256) : crcN 65535 (seald l) = 0 := by
  have hc := crcN_lt l 65535 (by decide) h
  have e : seald l = l ++ [crcN 65535 l % 256] ++ [crcN 65535 l / 256] := by simp [seald]
  rw [e, crcN_app, crcN_app]
  exact (crc_nat hc (by omega) (by omega)).mpr ⟨rfl, rfl⟩
/-- the function's number -/
def fnc (isW : Bool) (w : Nat) : Nat := if isW then (if w = 1 then 6 else 16) else 3
/-- the frame of a group: device, first register, how many, whether it writes, what -/
def fbody (d lo w : Nat) (isW : Bool) (wr : Nat → Nat) : List Nat :=
  if isW then (if w = 1 then [d, 6, lo / 256, lo % 256, wr 0 / 256, wr 0 % 256] else [d, 16, lo / 256, lo % 256, w / 256, w % 256, 2 * w] ++ wrds wr w) else [d, 3, lo / 256, lo % 256, w / 256, w % 256]
def fby (d lo w : Nat) (isW : Bool) (wr : Nat → Nat) : List Nat := seald (fbody d lo w isW wr)
def anyB (n : Nat) (p : Nat → Bool) : Bool := (List.range n).any p
theorem anyB_s {n : Nat} {p : Nat → Bool} : anyB (n + 1) p = (anyB n p || p n) := by
  unfold anyB
  rw [List.range_succ, List.any_append]
  simp
theorem anyB_iff {n : Nat} {p : Nat → Bool} : anyB n p = true ↔ ∃ k, k < n ∧ p k = true := by
  unfold anyB
  simp
theorem anyB_f {n : Nat} {p : Nat → Bool} : anyB n p = false ↔ ∀ k, k < n → p k = false := by
  unfold anyB
  simp
/-- the device's exception code; 0: it does what the frame says -/
def rcode (ro : Nat → Nat) (top lo w : Nat) (isW : Bool) (wr : Nat → Nat) : Nat :=
  if 32 < lo + w then 2 else if isW then (if anyB w (fun k => ro (lo + k) == 1) then 2 else if anyB w (fun k => decide (top < wr k)) then 3 else 0) else 0
/-- the reply ahead of its checksum -/
def rbody (rg : Nat → Nat) (d lo w : Nat) (isW : Bool) (wr : Nat → Nat) (code : Nat) : List Nat :=
  if code = 0 then (if isW then [d, fnc isW w, lo / 256, lo % 256] ++ (if w = 1 then [wr 0 / 256, wr 0 % 256] else [w / 256, w % 256]) else [d, 3, 2 * w] ++ wrds (fun k => rg (lo + k)) w) else [d, fnc isW w + 128, code]
/-- the frame s tells a group -/
def tells (s : List Nat) (d lo w : Nat) (isW : Bool) (wr : Nat → Nat) : Prop := s.getD 0 0 = d ∧ s.getD 1 0 = fnc isW w ∧ wd s 2 = lo ∧ rgc s = w ∧ wd s 4 = (if isW && w == 1 then wr 0 else w) ∧ (isW = true → ∀ k, k < w → wrv s k = wr k)
theorem wd_i {l : List Nat} {i : Nat} (h : i + 1 < l.length) : wd l i = l.getD i 0 * 256 + l.getD (i + 1) 0 := if_pos h
theorem dm (x : Nat) : x / 256 * 256 + x % 256 = x := by omega
theorem fby_tells {d lo w : Nat} {isW : Bool} {wr : Nat → Nat} (hw : 1 ≤ w) : tells (fby d lo w isW wr) d lo w isW wr := by
  have key : ∀ (l : List Nat) (k : Nat), k < l.length → (seald l).getD k 0 = l.getD k 0 := fun l k hk => seal_gd hk
  cases isW with
  | false =>
    have e : fby d lo w false wr = seald [d, 3, lo / 256, lo % 256, w / 256, w % 256] := rfl
    have hl : (fby d lo w false wr).length = 8 := by rw [e, seal_len]; rfl
    have b0 : (fby d lo w false wr).getD 0 0 = d := by rw [e, key _ _ (by simp)]; rfl
    have b1 : (fby d lo w false wr).getD 1 0 = 3 := by rw [e, key _ _ (by simp)]; rfl
    have w2 : wd (fby d lo w false wr) 2 = lo := by
      rw [wd_i (by omega), e, key _ _ (by simp), key _ _ (by simp)]; exact dm lo
    have w4 : wd (fby d lo w false wr) 4 = w := by
      rw [wd_i (by omega), e, key _ _ (by simp), key _ _ (by simp)]; exact dm w
    refine ⟨b0, b1, w2, ?_, w4, fun z => absurd z (by decide)⟩
    unfold rgc
    rw [b1, if_neg (by decide)]; exact w4
  | true =>
    by_cases h1 : w = 1
    · subst h1
      have e : fby d lo 1 true wr = seald [d, 6, lo / 256, lo % 256, wr 0 / 256, wr 0 % 256] := rfl
      have hl : (fby d lo 1 true wr).length = 8 := by rw [e, seal_len]; rfl
      have b0 : (fby d lo 1 true wr).getD 0 0 = d := by rw [e, key _ _ (by simp)]; rfl
      have b1 : (fby d lo 1 true wr).getD 1 0 = 6 := by rw [e, key _ _ (by simp)]; rfl
      have w2 : wd (fby d lo 1 true wr) 2 = lo := by
        rw [wd_i (by omega), e, key _ _ (by simp), key _ _ (by simp)]; exact dm lo
      have w4 : wd (fby d lo 1 true wr) 4 = wr 0 := by
        rw [wd_i (by omega), e, key _ _ (by simp), key _ _ (by simp)]; exact dm (wr 0)
      refine ⟨b0, b1, w2, ?_, w4, fun _ k hk => ?_⟩
      · unfold rgc
        rw [b1, if_pos rfl]
      · unfold wrv
        rw [b1, if_pos rfl, w4, show k = 0 by omega]
    · have e : fby d lo w true wr = seald ([d, 16, lo / 256, lo % 256, w / 256, w % 256, 2 * w] ++ wrds wr w) := by
        unfold fby fbody
        rw [if_pos rfl, if_neg h1]
      have hll : ([d, 16, lo / 256, lo % 256, w / 256, w % 256, 2 * w] ++ wrds wr w).length = 7 + 2 * w := by
        rw [List.length_append, wrds_len]; rfl
      have hl : (fby d lo w true wr).length = 9 + 2 * w := by rw [e, seal_len, hll]; omega
      have key2 : ∀ k, k < 7 → (fby d lo w true wr).getD k 0 = [d, 16, lo / 256, lo % 256, w / 256, w % 256, 2 * w].getD k 0 := fun k hk => by
        rw [e, key _ _ (by rw [hll]; omega), gd_app1 (by simpa using hk)]
      have b0 : (fby d lo w true wr).getD 0 0 = d := key2 0 (by decide)
      have b1 : (fby d lo w true wr).getD 1 0 = 16 := key2 1 (by decide)
      have w2 : wd (fby d lo w true wr) 2 = lo := by
        rw [wd_i (by omega), key2 _ (by decide), key2 _ (by decide)]; exact dm lo
      have w4 : wd (fby d lo w true wr) 4 = w := by
        rw [wd_i (by omega), key2 _ (by decide), key2 _ (by decide)]; exact dm w
      refine ⟨b0, ?_, w2, ?_, ?_, fun _ k hk => ?_⟩
      · rw [b1]; unfold fnc; rw [if_pos rfl, if_neg h1]
      · unfold rgc
        rw [b1, if_neg (by decide)]; exact w4
      · rw [w4]; simp [h1]
      · unfold wrv
        have g : ∀ j, j < 2 * w → (fby d lo w true wr).getD (7 + j) 0 = (wrds wr w).getD j 0 := fun j hj => by
          rw [e, key _ _ (by rw [hll]; omega)]
          exact gd_app2 (l := [d, 16, lo / 256, lo % 256, w / 256, w % 256, 2 * w])
        rw [b1, if_neg (by decide), wd_i (by omega), g _ (by omega), show 7 + 2 * k + 1 = 7 + (2 * k + 1) by omega, g _ (by omega), wrds_hi _ _ _ hk, wrds_lo _ _ _ hk]
        exact dm (wr k)
