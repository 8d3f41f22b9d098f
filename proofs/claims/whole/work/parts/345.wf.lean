/-! ===== what holds of every state ===== -/
def wfP (g t : Nat) (r : Rp) : Prop := r.1 ≤ t + 3000 ∧ r.2.1 ≤ g ∧ 5 ≤ r.2.2.length ∧ r.2.2.length ≤ 37 ∧ (∀ b ∈ r.2.2, b < 256) ∧ (128 ≤ r.2.2.getD 1 0 → r.2.2.length = 5 ∧ 1 ≤ r.2.2.getD 2 0) ∧ (r.2.2.getD 1 0 = 2 ∨ r.2.2.getD 1 0 = 3 → r.2.2.getD 2 0 % 2 = 0 → r.2.2.length = 5 + r.2.2.getD 2 0) ∧ (r.2.2.getD 1 0 = 6 ∨ r.2.2.getD 1 0 = 7 ∨ r.2.2.getD 1 0 = 16 ∨ r.2.2.getD 1 0 = 17 → r.2.2.length = 8)
theorem wfP.up {g t g' t' : Nat} {r : Rp} (h : wfP g t r) (hg : g ≤ g') (ht : t ≤ t') : wfP g' t' r := ⟨by have := h.1; omega, by have := h.2.1; omega, h.2.2⟩
def wfS (n : Nat → Nat) : Prop := n 1 ≤ 10000 ∧ 1 ≤ n 2 ∧ n 2 ≤ 1000 ∧ n 3 ≤ 3 ∧ n 4 ≤ 1000 ∧ n 5 ≤ 1 ∧ n 6 ≤ 40 ∧ n 8 ≤ 1
def wfD (rg ro : Nat → Nat) (tp dl : Nat) (fl : Fl) : Prop := (∀ r, rg r < 65536) ∧ (∀ r, ro r ≤ 1) ∧ tp < 65536 ∧ dl ≤ 1000 ∧ fl.length ≤ 6 ∧ ∀ p ∈ fl, 1 ≤ p.1 ∧ p.1 ≤ 4 ∧ p.2 ≤ 2000
def wfQ (n : Nat) (R : Nat → Nat → Nat) : Prop := (∀ i, i < n → wfR (R i)) ∧ ∀ i, n ≤ i → R i 5 = 0 ∧ R i 6 = 0 ∧ R i 8 = 0
def wfC (cf cv ct : Nat → Nat) (t : Nat) : Prop := ∀ p, cf p ≤ 1 ∧ (cf p = 1 → cv p < 65536 ∧ ct p ≤ t)
def WF (S : St) : Prop := wfS (zn S) ∧ (∀ d, wfD (zrg S d) (zro S d) (ztp S d) (zdl S d) (zfl S d)) ∧ wfQ (zn S 6) (zrq S) ∧ wfC (zcf S) (zcv S) (zct S) (zn S 0) ∧ ∀ r ∈ zL S, wfP (zn S 7) (zn S 0) r
/-- a frame's parts are in their ranges -/
def wfF (p : Fp) : Prop := 1 ≤ fd p ∧ fd p ≤ 3 ∧ 1 ≤ fwd p ∧ fwd p ≤ 16 ∧ (fisW p = true → fwd p ≤ 8) ∧ flo p ≤ 1000 ∧ ∀ k, fwr p k < 65536
theorem fnc_v (isW : Bool) (w : Nat) : fnc isW w = 3 ∨ fnc isW w = 6 ∨ fnc isW w = 16 := by
  unfold fnc
  split
  · split <;> simp
  · simp
theorem rcode_v {ro : Nat → Nat} {top lo w : Nat} {isW : Bool} {wr : Nat → Nat} : rcode ro top lo w isW wr = 0 ∨ rcode ro top lo w isW wr = 2 ∨ rcode ro top lo w isW wr = 3 := by
  unfold rcode
  split
  · simp
  · split
    · split
      · simp
      · split <;> simp
    · simp
theorem acode_v {ro : Nat → Nat} {top lo w : Nat} {fl : Fl} {isW : Bool} {wr : Nat → Nat} : acode ro top fl lo w isW wr = 0 ∨ acode ro top fl lo w isW wr = 2 ∨ acode ro top fl lo w isW wr = 3 ∨ acode ro top fl lo w isW wr = 6 := by
  unfold acode
  split
  · simp
  · rcases (@rcode_v ro top lo w isW wr) with e | e | e <;> rw [e] <;> simp
theorem acode_0 {ro : Nat → Nat} {top lo w : Nat} {fl : Fl} {isW : Bool} {wr : Nat → Nat} (h : acode ro top fl lo w isW wr = 0) : lo + w ≤ 32 := by
  unfold acode at h
  split at h
  · exact absurd h (by decide)
  · exact rcode_0 h
theorem xr1 (a : Nat) : (a ^^^ 1) % 2 = (a + 1) % 2 := by rw [x_mod2]; omega
/-- the format of a reply's bytes -/
def fmt (l : List Nat) : Prop := 5 ≤ l.length ∧ l.length ≤ 37 ∧ (∀ b ∈ l, b < 256) ∧ (128 ≤ l.getD 1 0 → l.length = 5 ∧ 1 ≤ l.getD 2 0) ∧ (l.getD 1 0 = 2 ∨ l.getD 1 0 = 3 → l.getD 2 0 % 2 = 0 → l.length = 5 + l.getD 2 0) ∧ (l.getD 1 0 = 6 ∨ l.getD 1 0 = 7 ∨ l.getD 1 0 = 16 ∨ l.getD 1 0 = 17 → l.length = 8)
theorem rb_v {rg : Nat → Nat} {d lo w : Nat} {isW : Bool} {wr : Nat → Nat} {code : Nat} (hw : 1 ≤ w ∧ w ≤ 16) (hd : d < 256) (hlo : lo ≤ 1000) (hwr : ∀ k, wr k < 65536) (hrg : ∀ r, rg r < 65536) (hc : code = 0 ∨ code = 2 ∨ code = 3 ∨ code = 6) :
    let l := seald (rbody rg d lo w isW wr code)
    (∀ b ∈ l, b < 256) ∧ ((l.length = 5 ∧ (l.getD 1 0 = 131 ∨ l.getD 1 0 = 134 ∨ l.getD 1 0 = 144) ∧ (l.getD 2 0 = 2 ∨ l.getD 2 0 = 3 ∨ l.getD 2 0 = 6)) ∨ (l.length = 5 + 2 * w ∧ l.getD 1 0 = 3 ∧ l.getD 2 0 = 2 * w) ∨ (l.length = 8 ∧ (l.getD 1 0 = 6 ∨ l.getD 1 0 = 16))) := by
  have f3 := fnc_v isW w
  dsimp only
  by_cases e : code = 0
  · subst e
    cases isW with
    | false =>
      have eb : rbody rg d lo w false wr 0 = [d, 3, 2 * w] ++ wrds (fun k => rg (lo + k)) w := rfl
      have hl : (rbody rg d lo w false wr 0).length = 3 + 2 * w := by rw [eb, List.length_append, wrds_len]; rfl
      refine ⟨seal_lt (fun b hb => ?_), Or.inr (Or.inl ⟨by rw [seal_len, hl]; omega, ?_, ?_⟩)⟩
      · rw [eb] at hb
        rcases List.mem_append.mp hb with q | q
        · simp at q; omega
        · exact wrds_lt _ (fun k => hrg _) w b q
      · rw [seal_gd (by omega), eb]; rfl
      · rw [seal_gd (by omega), eb]; rfl
    | true =>
      have eb : rbody rg d lo w true wr 0 = [d, fnc true w, lo / 256, lo % 256] ++ (if w = 1 then [wr 0 / 256, wr 0 % 256] else [w / 256, w % 256]) := rfl
      have hl : (rbody rg d lo w true wr 0).length = 6 := by rw [eb]; split <;> rfl
      have hf : fnc true w = 6 ∨ fnc true w = 16 := by unfold fnc; rw [if_pos rfl]; split <;> simp
      refine ⟨seal_lt (fun b hb => ?_), Or.inr (Or.inr ⟨by rw [seal_len, hl], ?_⟩)⟩
      · have := hwr 0
        rw [eb] at hb
        split at hb <;> simp at hb <;> omega
      · rw [seal_gd (by omega), eb]; exact hf
  · have eb : rbody rg d lo w isW wr code = [d, fnc isW w + 128, code] := by unfold rbody; rw [if_neg e]
    have hl : (rbody rg d lo w isW wr code).length = 3 := by rw [eb]; rfl
    refine ⟨seal_lt (fun b hb => ?_), Or.inl ⟨by rw [seal_len, hl], ?_, ?_⟩⟩
    · rw [eb] at hb; simp at hb; omega
    · rw [seal_gd (by omega), eb]; show fnc isW w + 128 = 131 ∨ fnc isW w + 128 = 134 ∨ fnc isW w + 128 = 144; omega
    · rw [seal_gd (by omega), eb]; show code = 2 ∨ code = 3 ∨ code = 6; omega
theorem x131 : (131 ^^^ 1 = 130) ∧ (134 ^^^ 1 = 135) ∧ (144 ^^^ 1 = 145) ∧ (2 ^^^ 1 = 3) ∧ (3 ^^^ 1 = 2) ∧ (6 ^^^ 1 = 7) ∧ (16 ^^^ 1 = 17) := by decide
theorem ab_fmt {rg : Nat → Nat} {d lo w : Nat} {isW : Bool} {wr : Nat → Nat} {code : Nat} {fl : Fl} (hw : 1 ≤ w ∧ w ≤ 16) (hd : d < 256) (hlo : lo ≤ 1000) (hwr : ∀ k, wr k < 65536) (hrg : ∀ r, rg r < 65536) (hc : code = 0 ∨ code = 2 ∨ code = 3 ∨ code = 6) : fmt (abytes rg code fl d lo w isW wr) := by
  obtain ⟨hb, hv⟩ := rb_v (rg := rg) (isW := isW) hw hd hlo hwr hrg hc
  obtain ⟨q1, q2, q3, q4, q5, q6, q7⟩ := x131
  unfold abytes
  generalize seald (rbody rg d lo w isW wr code) = l at hb hv
  split
  · have hl0 : 0 < l.length := by omega
    have hi : (hd2 fl).2 % l.length < l.length := Nat.mod_lt _ hl0
    generalize (hd2 fl).2 % l.length = i at hi
    have hlen : (inv1 l i).length = l.length := List.length_set
    have b1 : (inv1 l i).getD 1 0 = if 1 = i then l.getD i 0 ^^^ 1 else l.getD 1 0 := inv1_gd hi
    have b2 : (inv1 l i).getD 2 0 = if 2 = i then l.getD i 0 ^^^ 1 else l.getD 2 0 := inv1_gd hi
    have hbb : ∀ b ∈ inv1 l i, b < 256 := fun b hb' => by
      rcases List.mem_or_eq_of_mem_set hb' with z | z
      · exact hb b z
      · rw [z]; exact x_lt8 (gd_b hb _) (by decide)
    unfold fmt
    rw [hlen, b1, b2]
    refine ⟨by omega, by omega, hbb, ?_⟩
    by_cases e1 : 1 = i
    · subst e1
      rw [if_pos rfl, if_neg (by decide)]
      rcases hv with ⟨v1, v2 | v2 | v2, v3⟩ | ⟨v1, v2, v3⟩ | ⟨v1, v2 | v2⟩ <;> rw [v2, v1]
      · rw [q1]; omega
      · rw [q2]; omega
      · rw [q3]; omega
      · rw [q5]; omega
      · rw [q6]; omega
      · rw [q7]; omega
    · rw [if_neg e1]
      by_cases e2 : 2 = i
      · subst e2
        rw [if_pos rfl]
        have x := xr1 (l.getD 2 0)
        rcases hv with ⟨v1, v2, v3 | v3 | v3⟩ | ⟨v1, v2, v3⟩ | ⟨v1, v2⟩
        · rw [v3, q4]; omega
        · rw [v3, q5]; omega
        · rw [v3, q6]; omega
        · rw [v2]; omega
        · omega
      · rw [if_neg e2]
        omega
  · unfold fmt
    refine ⟨by omega, by omega, hb, ?_⟩
    omega
theorem fby_len {d lo w : Nat} {isW : Bool} {wr : Nat → Nat} (hw : 1 ≤ w ∧ w ≤ 16) (h8 : isW = true → w ≤ 8) : 8 ≤ (fby d lo w isW wr).length ∧ (fby d lo w isW wr).length ≤ 25 := by
  unfold fby
  rw [seal_len]
  unfold fbody
  cases isW with
  | false => rw [if_neg (by decide)]; simp
  | true =>
    have := h8 rfl
    rw [if_pos rfl]
    split
    · simp
    · rw [List.length_append, wrds_len]; simp; omega
theorem fby_lt {d lo w : Nat} {isW : Bool} {wr : Nat → Nat} (hw : 1 ≤ w ∧ w ≤ 16) (h8 : isW = true → w ≤ 8) (hd : d < 256) (hlo : lo ≤ 1000) (hwr : ∀ k, wr k < 65536) : ∀ b ∈ fby d lo w isW wr, b < 256 := by
  apply seal_lt
  intro b hb
  have h0 := hwr 0
  unfold fbody at hb
  split at hb
  · split at hb
    · simp at hb; omega
    · rcases List.mem_append.mp hb with q | q
      · have := h8 (by assumption)
        simp at q; omega
      · exact wrds_lt _ hwr w b q
  · simp at hb; omega
theorem tkS_sub {s : List Nat} {u : Nat} : ∀ (m : Nat) (L : List Rp), (∀ r ∈ (tkS s u m L).2, r ∈ L) ∧ (∀ r, (tkS s u m L).1 = some r → r ∈ L ∧ fitsB r.2.2 s = true ∧ r.1 ≤ u) ∧ (tkS s u m L).2.length ≤ L.length
  | 0, L => ⟨fun r hr => hr, fun r hr => by simp [tkS] at hr, Nat.le_refl _⟩
  | m + 1, L => by
    rw [tkS_s]
    cases he : erl L u with
    | none => exact ⟨fun r hr => hr, fun r hr => by simp at hr, Nat.le_refl _⟩
    | some i =>
      have hi : i < L.length := erS_i _ _ he
      have hbeg : (L.getD i dr).1 ≤ u := by
        have gen : ∀ k j, (erS L u k).1 = some j → (L.getD j dr).1 = (erS L u k).2 ∧ (erS L u k).2 ≤ u := by
          intro k
          induction k with
          | zero => intro j hj; simp [erS] at hj
          | succ k ih =>
            intro j hj
            unfold erS at hj ⊢
            by_cases e : (L.getD k dr).1 < (erS L u k).2
            · rw [if_pos e] at hj ⊢
              injection hj with hj
              subst hj
              have := erS_b (L := L) (u := u) k
              exact ⟨rfl, by show (L.getD k dr).1 ≤ u; omega⟩
            · rw [if_neg e] at hj ⊢
              exact ih j hj
        obtain ⟨g1, g2⟩ := gen _ _ he
        omega
      dsimp only
      by_cases e : fitsB (L.getD i dr).2.2 s = true
      · rw [if_pos e]
        refine ⟨fun r hr => List.mem_of_mem_eraseIdx hr, fun r hr => ?_, by rw [List.length_eraseIdx_of_lt hi]; omega⟩
        injection hr with hr
        rw [← hr]
        exact ⟨gRd hi, e, hbeg⟩
      · rw [if_neg e]
        obtain ⟨a, b, c⟩ := tkS_sub (s := s) (u := u) m (L.eraseIdx i)
        refine ⟨fun r hr => List.mem_of_mem_eraseIdx (a r hr), fun r hr => ?_, ?_⟩
        · obtain ⟨b1, b2, b3⟩ := b r hr
          exact ⟨List.mem_of_mem_eraseIdx b1, b2, b3⟩
        · rw [List.length_eraseIdx_of_lt hi] at c; omega
