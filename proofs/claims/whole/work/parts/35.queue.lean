/-! ===== Queue ===== -/
def RV (G : Gt) (q : Nat) (R V : Nat → Nat) : Prop := gI G 298 q = nI (R 8) ∧ (R 4 = 0 → R 5 = 1 → ∀ k, k < R 3 → gA G (q + 1) k = nI (V k))
theorem RV.keep {G G' : Gt} {q : Nat} {R V : Nat → Nat} (h : RV G q R V) (h0 : eqAt G G' q) (h1 : eqAt G G' (q + 1)) : RV G' q R V := ⟨(h0.2.1 _).trans h.1, fun a b k hk => by rw [h1.2.2.2.2.1]; exact h.2 a b k hk⟩
/-- a request in its queue; fu: with its values -/
def QE (sd : Nat → Nat) (s : Nat) (G : Gt) (q : Nat) (R : Nat → Nat) (wh : Int32) (V : Nat → Nat) (fu : Bool) : Prop := q + 1 < gH G ∧ sd q = s ∧ sd (q + 1) = s ∧ RQ G q R wh ∧ wfR R ∧ (fu = true → RV G q R V)
theorem QE.keep {sd : Nat → Nat} {s : Nat} {G G' : Gt} {q : Nat} {R : Nat → Nat} {wh : Int32} {V : Nat → Nat} {fu : Bool} {P : Nat → Prop} (h : QE sd s G q R wh V fu) (c : ch G G' P) (h0 : ¬ P q) (h1 : ¬ P (q + 1)) : QE sd s G' q R wh V fu := by
  obtain ⟨a1, a2, a3, a4, a5, a6⟩ := h
  have e0 := c.2.2.1 q (by omega) h0
  have e1 := c.2.2.1 (q + 1) a1 h1
  exact ⟨Nat.lt_of_lt_of_le a1 c.1, a2, a3, a4.keep e0 e1, a5, fun f => (a6 f).keep e0 e1⟩
def QU (X : Xt) (sd : Nat → Nat) (s : Nat) (G : Gt) (u z : Nat) (qs : List Nat) (R : Nat → Nat → Nat) (W : Nat → Int32) (V : Nat → Nat → Nat) (fu : Bool) : Prop :=
  ∃ b c, (gT G u = (1, 7) ∧ gR G 224 u = some (u + 1) ∧ u < gH G ∧ sd u = s ∧ sd (u + 1) = s) ∧ AL X G (u + 1) b c qs ∧ (b ≠ xde X → sd b = s) ∧ qs.Nodup ∧ qs.length ≤ 40 ∧ c ≤ 90 ∧ z = c + 2 * qs.length ∧ ∀ k, k < qs.length → QE sd s G (qs.getD k 0) (R k) (W k) (V k) fu
def QG (G : Gt) (u M q dv iw lo hi : Nat) : Prop := gJ G 225 u = lN M ∧ gI G 226 u = nI q ∧ gI G 227 u = nI dv ∧ gI G 228 u = nI iw ∧ gI G 229 u = nI lo ∧ gI G 230 u = nI hi
theorem QG.keep {G G' : Gt} {u M q dv iw lo hi : Nat} (h : QG G u M q dv iw lo hi) (e : eqAt G G' u) : QG G' u M q dv iw lo hi := by
  unfold QG
  rw [e.2.2.1, e.2.1, e.2.1, e.2.1, e.2.1, e.2.1]
  exact h
theorem cg_i {G g : Gt} {f a : Nat} {x : Int32} (h : cg G g (fun b => b = a)) : cg G (sI g f a x) (fun b => b = a) := h.tr (cg.sI (P := fun b => b = a) rfl)
theorem cg_j {G g : Gt} {f a : Nat} {x : Int64} (h : cg G g (fun b => b = a)) : cg G (sJ g f a x) (fun b => b = a) := h.tr (cg.sJ (P := fun b => b = a) rfl)
section QUEUE
variable {X : Xt} {sd : Nat → Nat} {s : Nat} {G : Gt} {u z : Nat} {qs : List Nat} {R : Nat → Nat → Nat} {W : Nat → Int32} {V : Nat → Nat → Nat} {fu : Bool}
theorem QU.t (h : QU X sd s G u z qs R W V fu) : gT G u = (1, 7) ∧ gR G 224 u = some (u + 1) ∧ u < gH G ∧ sd u = s ∧ sd (u + 1) = s ∧ (∃ b c, AL X G (u + 1) b c qs) ∧ gT G (u + 1) = (1, 0) ∧ qs.length ≤ 40 := by
  obtain ⟨b, c, ⟨t1, t2, t3, t4, t5⟩, h2, h3, h4, h5, _⟩ := h
  exact ⟨t1, t2, t3, t4, t5, ⟨b, c, h2⟩, h2.1, h5⟩
theorem QU.e (h : QU X sd s G u z qs R W V fu) {k : Nat} (hk : k < qs.length) : QE sd s G (qs.getD k 0) (R k) (W k) (V k) fu := by
  obtain ⟨b, c, _, h2, h3, h4, h5, h6, h7, h8⟩ := h
  exact h8 k hk
theorem QU.keep {G' : Gt} {P : Nat → Prop} (h : QU X sd s G u z qs R W V fu) (c : ch G G' P) (hP : ∀ a, sd a = s → a ≠ u → ¬ P a) : QU X sd s G' u z qs R W V fu := by
  obtain ⟨b, cp, ⟨t1, t2, t3, t4, t5⟩, h2, h3, h4, h5, h6, h7, h8⟩ := h
  refine ⟨b, cp, ⟨(c.2.1 u t3).trans t1, (c.2.2.2.1 224 u t3 (by decide) (by decide)).trans t2, Nat.lt_of_lt_of_le t3 c.1, t4, t5⟩, h2.keep c (hP _ t5 (by omega)) (fun hb => hP _ (h3 hb) (fun e => ?_)), h3, h4, h5, h6, h7, fun k hk => ?_⟩
  · rcases h2.2.2.2.2.2.2.2.2 with ⟨_, q2, _⟩ | ⟨_, _, q3, _⟩
    · exact hb q2
    · rw [e, t1] at q3; cases q3
  · have q := h8 k hk
    refine q.keep c (hP _ q.2.1 (fun e => ?_)) (hP _ q.2.2.1 (fun e => ?_))
    · have := q.2.2.2.1.1
      rw [e, t1] at this; cases this
    · have := q.2.2.2.1.2.2.1
      rw [e, t1] at this; cases this
theorem QU.ext {R' : Nat → Nat → Nat} {W' : Nat → Int32} {V' : Nat → Nat → Nat} (h : QU X sd s G u z qs R W V fu) (hR : ∀ k, k < qs.length → R' k = R k) (hW : ∀ k, k < qs.length → W' k = W k) (hV : ∀ k, k < qs.length → V' k = V k) : QU X sd s G u z qs R' W' V' fu := by
  obtain ⟨b, cp, h1, h2, h3, h4, h5, h6, h7, h8⟩ := h
  exact ⟨b, cp, h1, h2, h3, h4, h5, h6, h7, fun k hk => by rw [hR k hk, hW k hk, hV k hk]; exact h8 k hk⟩
theorem QU.upd {G' : Gt} {k : Nat} {R' V' : Nat → Nat} {w' : Int32} (h : QU X sd s G u z qs R W V fu) (hk : k < qs.length) (c : cg G G' (fun a => a = qs.getD k 0 ∨ a = qs.getD k 0 + 1)) (hq : RQ G' (qs.getD k 0) R' w') (hw : wfR R') (hv : fu = true → RV G' (qs.getD k 0) R' V') : QU X sd s G' u z qs (va_up R k R') (va_up W k w') (va_up V k V') fu := by
  obtain ⟨b, cp, ⟨t1, t2, t3, t4, t5⟩, h2, h3, h4, h5, h6, h7, h8⟩ := h
  have q := h8 k hk
  have k1 := q.2.2.2.1.1
  have k2 := q.2.2.2.1.2.2.1
  refine ⟨b, cp, ⟨(c.2.2.1 u).trans t1, (c.2.2.2.1 224 u).trans t2, by rw [c.1]; exact t3, t4, t5⟩, h2.keep c.ch (fun e => ?_) (fun hb e => ?_), h3, h4, h5, h6, h7, fun j hj => ?_⟩
  · rcases e with e | e
    · rw [← e, h2.1] at k1; cases k1
    · rw [← e, h2.1] at k2; cases k2
  · rcases h2.2.2.2.2.2.2.2.2 with ⟨_, q2, _⟩ | ⟨_, _, q3, _⟩
    · exact hb q2
    · rcases e with e | e
      · rw [← e, q3] at k1; cases k1
      · rw [← e, q3] at k2; cases k2
  · by_cases e : j = k
    · subst e
      rw [va_up_self, va_up_self, va_up_self]
      exact ⟨by rw [c.1]; exact q.1, q.2.1, q.2.2.1, hq, hw, hv⟩
    · rw [va_up_ne _ _ e, va_up_ne _ _ e, va_up_ne _ _ e]
      have p := h8 j hj
      have p1 := p.2.2.2.1.1
      have p2 := p.2.2.2.1.2.2.1
      have hne : qs.getD j 0 ≠ qs.getD k 0 := fun e2 => e (by
        have e3 : qs[j] = qs[k] := by simpa [List.getD, hj, hk] using e2
        exact (List.getElem_inj h4).mp e3)
      refine p.keep c.ch (fun hh => ?_) (fun hh => ?_)
      · rcases hh with e2 | e2
        · exact hne e2
        · rw [e2, k2] at p1; cases p1
      · rcases hh with e2 | e2
        · rw [e2, k1] at p2; cases p2
        · exact hne (by omega)
/-- the k-th request is got -/
theorem q_get {k : Nat} {Pr : Option Nat → Gt → Prop} {Px : String → Gt → Prop} (h : QU X sd s G u z qs R W V fu) (hk : k < qs.length) (hp : Pr (some (qs.getD k 0)) G) : wJx4a65c_get_915e3 X G (u + 1) (nI k) Pr Px := by
  obtain ⟨b, c, _, h2, _⟩ := h
  exact sp_get h2 hk hp
theorem q_size {Pr : Int32 → Gt → Prop} (h : QU X sd s G u z qs R W V fu) (hp : Pr (nI qs.length) G) : wJx4a65c_size_8abf5 X G (u + 1) Pr := by
  obtain ⟨b, c, _, h2, _⟩ := h
  exact sp_size h2 hp
theorem sp_isMember {M i : Nat} {Pr : Int32 → Gt → Prop} (ht : gT G u = (1, 7)) (hM : gJ G 225 u = lN M) (hm : M < 2 ^ 40) (hi : i < 40) (y : mb M i = true → Pr 1 G) (n : mb M i = false → Pr 0 G) : wX6_isMember X G u (nI i) Pr := by
  unfold wX6_isMember
  rw [hM, l_mem hm hi]
  exact ⟨ht, fun z => n (by simpa using z), fun z => y z⟩
theorem sp_width {M q dv iw lo hi : Nat} {Pr : Int32 → Gt → Prop} (ht : gT G u = (1, 7)) (hg : QG G u M q dv iw lo hi) (hl : lo ≤ hi) (hp : Pr (nI (hi - lo)) G) : wX6_width X G u Pr := by
  unfold wX6_width
  rw [hg.2.2.2.2.1, hg.2.2.2.2.2, n_sub hl]
  exact ⟨ht, ht, hp⟩
theorem sp_openGroup {Pr : Option Nat → Gt → Prop} {Px : String → Gt → Prop} (h : QU X sd s G u z qs R W V fu)
    (k0 : ∀ G', fwN R qs.length = qs.length → cg G G' (fun a => a = u) → QU X sd s G' u z qs R W V fu → gJ G' 225 u = lN 0 → Pr none G')
    (k1 : ∀ G' i, i < qs.length → fwN R qs.length = i → R i 5 = 0 → cg G G' (fun a => a = u) → QU X sd s G' u z qs R W V fu → QG G' u (2 ^ i) i (R i 1) (R i 4) (R i 2) (R i 2 + R i 3) → Pr (some (qs.getD i 0)) G') : wX6_openGroup X G u Pr Px := by
  obtain ⟨t1, t2, t3, t4, t5, _, t7, t8⟩ := h.t
  have kp : ∀ {G' : Gt}, cg G G' (fun a => a = u) → QU X sd s G' u z qs R W V fu := fun c => h.keep c.ch (fun a _ hn e => hn e)
  refine ⟨t1, ?_⟩
  rintro G1 rfl
  have c1 : cg G (sJ G 225 u 0) (fun a => a = u) := cg.sJ rfl
  have h1 := kp c1
  refine ⟨fun g a0 x1 => g = sJ G 225 u 0 ∧ a0 = u ∧ ∃ i, x1 = nI i ∧ i ≤ qs.length ∧ ∀ j, j < i → R j 5 ≠ 0, fun _ _ x1 => qs.length - x1.toNatClampNeg, ⟨rfl, rfl, 0, rfl, by omega, fun j hj => absurd hj (by omega)⟩, ?_⟩
  rintro g a0 x1 ⟨rfl, rfl, i, rfl, hi, hj⟩
  refine ⟨t1, a0 + 1, t2, t7, q_size h1 ⟨fun q => ?_, fun q => ?_⟩⟩
  · have q' : qs.length ≤ i := (n_le (by omega) (by omega)).mp q
    refine k0 _ (fwN_eq (Nat.le_refl _) (fun z => absurd z (by omega)) (fun j hj2 => hj j (by omega))) c1 h1 ?_
    rw [gJ_sJ, if_pos ⟨rfl, rfl⟩]; rfl
  · have q' : i < qs.length := Nat.lt_of_not_le (fun e => q ((n_le (by omega) (by omega)).mpr e))
    have qe := h1.e q'
    obtain ⟨a1, a2, a3, b0, b1, b2, b3, b4, b5, b6, b7, b8, b9⟩ := qe.2.2.2.1
    obtain ⟨w0, w1, w2, w3, w4, w5, w6, w7, w8, _⟩ := qe.2.2.2.2.1
    have hne : qs.getD i 0 ≠ a0 := fun e => by
      have t1' : gT (sJ G 225 a0 0) a0 = (1, 7) := t1
      rw [e, t1'] at a1; cases a1
    refine ⟨t1, a0 + 1, t2, t7, q_get h1 q' ⟨_, rfl, a1, a1, fun zz => ⟨⟨rfl, rfl, i + 1, nI_1 i, by omega, fun j hj2 => ?_⟩, ?_⟩, fun zz => ⟨t1, ?_⟩⟩⟩
    · by_cases e : j = i
      · subst e; intro e2; exact zz (by rw [b6, e2]; rfl)
      · exact hj j (by omega)
    · dsimp only
      rw [nI_1, n_cl (by omega), n_cl (by omega)]; omega
    · have r5 : R i 5 = 0 := by rw [b6] at zz; exact n_inj (b := 0) (by omega) (by decide) zz
      rintro G2 rfl
      refine ⟨t1, ?_⟩
      rintro G3 rfl
      refine ⟨a1, t1, ?_⟩
      rintro G4 rfl
      refine ⟨a1, t1, ?_, ?_⟩
      · rw [gI_sI, if_neg (fun z => absurd z.1 (by decide)), gI_sI, if_neg (fun z => absurd z.1 (by decide))]
        show gI (sJ G 225 a0 0) 293 (qs.getD i 0) = 0 ∨ gI (sJ G 225 a0 0) 293 (qs.getD i 0) = 1
        rw [b5]
        rcases (show R i 4 = 0 ∨ R i 4 = 1 by omega) with e | e <;> rw [e]
        · exact Or.inl rfl
        · exact Or.inr rfl
      rintro G5 rfl
      refine ⟨a1, t1, ?_⟩
      rintro G6 rfl
      refine ⟨a1, t1, ?_⟩
      rintro G7 rfl
      have cc := fun (x1 x2 x3 x4 x5 : Int32) (y : Int64) => cg_i (f := 230) (x := x5) (cg_i (f := 229) (x := x4) (cg_i (f := 228) (x := x3) (cg_i (f := 227) (x := x2) (cg_i (f := 226) (x := x1) (cg_j (f := 225) (x := y) c1)))))
      have fo : ∀ (f f' : Nat) (g : Gt) (x : Int32), gI (sI g f a0 x) f' (qs.getD i 0) = gI g f' (qs.getD i 0) := fun f f' g x => by rw [gI_sI, if_neg (fun z => hne z.2)]
      have hq : ∀ (g : Gt) (f' : Nat) (y : Int64), gI (sJ g 225 a0 y) f' (qs.getD i 0) = gI g f' (qs.getD i 0) := fun _ _ _ => rfl
      have b1' : gI G 289 (qs.getD i 0) = nI (R i 1) := b1
      have b2' : gI G 290 (qs.getD i 0) = nI (R i 2) := b2
      have b4' : gI G 292 (qs.getD i 0) = nI (R i 2 + R i 3) := b4
      have b5' : gI G 293 (qs.getD i 0) = nI (R i 4) := b5
      simp only [fo, hq, b1', b2', b4', b5', l_shl (show i < 40 by omega)]
      refine k1 _ i q' (fwN_eq (by omega) (fun _ => r5) hj) r5 (cc _ _ _ _ _ _) (kp (cc _ _ _ _ _ _)) ⟨?_, ?_, ?_, ?_, ?_, ?_⟩
      · show gJ (sJ (sJ G 225 a0 0) 225 a0 (lN (2 ^ i))) 225 a0 = _
        rw [gJ_sJ, if_pos ⟨rfl, rfl⟩]
      · simp [gI_sI]
      · simp [gI_sI]
      · simp [gI_sI]
      · simp [gI_sI]
      · simp [gI_sI]
end QUEUE
