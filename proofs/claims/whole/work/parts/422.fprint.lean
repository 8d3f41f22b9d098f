/-! ===== fingerprint: what it is, the class's ===== -/
def mixP (p : Int64) (x : Int32) : Int64 := 31 * p + x.toInt64
def fpN (f : Nat → Int32) : Nat → Int64 → Int64
  | 0, p => p
  | n + 1, p => mixP (fpN f n p) (f n)
def rqF (S : St) (i : Nat) (p : Int64) : Int64 := if zrq S i 4 = 0 ∧ zrq S i 5 = 1 then fpN (fun k => nI (zV S i k)) (zrq S i 3) (mixP (mixP (mixP p (nI (zrq S i 5))) (nI (zrq S i 6))) (zW S i)) else mixP (mixP (mixP p (nI (zrq S i 5))) (nI (zrq S i 6))) (zW S i)
def fpR (S : St) : Nat → Int64 → Int64
  | 0, p => p
  | n + 1, p => rqF S n (fpR S n p)
def fpG (S : St) : Nat → Int64 → Int64
  | 0, p => p
  | n + 1, p => mixP (mixP (fpG S n p) (nI (zrg S (1 + n / 32) (n % 32)))) (cvl (zcf S) (zcv S) n)
def fp1 (S : St) (n : Nat) : Int64 := fpN (fun i => nI (zn S (10 + i))) n (mixP 73 (nI (zn S 0)))
def fp2 (S : St) (n : Nat) : Int64 := fpN (fun s => nI (cntP (fun i => decide (zrq S i 5 = s)) (zn S 6))) n (fp1 S 6)
def fp3 (S : St) (n : Nat) : Int64 := fpR S n (fp2 S 3)
def fp4 (S : St) (n : Nat) : Int64 := fpG S n (fp3 S (zn S 6))
theorem fpG_s {S : St} {n : Nat} {p : Int64} : fpG S (n + 1) p = mixP (mixP (fpG S n p) (nI (zrg S (1 + n / 32) (n % 32)))) (cvl (zcf S) (zcv S) n) := rfl
theorem fp4_s {S : St} {d r : Nat} (h : 1 ≤ d) (hr : r < 32) : fp4 S (32 * (d - 1) + (r + 1)) = mixP (mixP (fp4 S (32 * (d - 1) + r)) (nI (zrg S d r))) (cvl (zcf S) (zcv S) (plc d r)) := by
  unfold fp4
  rw [show 32 * (d - 1) + (r + 1) = 32 * (d - 1) + r + 1 by omega, fpG_s, show 1 + (32 * (d - 1) + r) / 32 = d by omega, show (32 * (d - 1) + r) % 32 = r by omega]
  rfl
section FPRINT
variable {X : Xt} {sd : Nat → Nat} {G G' : Gt} {g c a z : Nat} {S S' : St} {L L' : Hr} {Pl : Int64 → Gt → Prop} {Px : String → Gt → Prop}
theorem sp_mixRequest {q i : Nat} {p : Int64} (hq : QE sd 2 G q (zrq S i) (zW S i) (zV S i) true) (k : Pl (rqF S i p) G) : wX9_mixRequest X G p q Pl := by
  obtain ⟨_, _, _, ⟨a1, a2, a3, b0, b1, b2, b3, b4, b5, b6, b7, b8, b9⟩, ⟨w0, w1, w2, w3, w4, w5, w6, w7, w8, _⟩, hv⟩ := hq
  obtain ⟨v1, v2⟩ := hv rfl
  unfold rqF at k
  refine ⟨a1, a1, a1, a1, a1, ?_, ?_⟩
  · intro z4
    refine ⟨fun _ => ?_, fun z => absurd rfl z⟩
    rw [if_neg (fun e => z4 (by rw [b5, e.1]; rfl))] at k
    rw [b6, b7, b8]; exact k
  · intro z4
    refine ⟨a1, fun z5 => ⟨fun _ => ?_, fun z => absurd rfl z⟩, fun z5 => ⟨fun z => absurd z (by decide), fun _ => ?_⟩⟩
    · rw [if_neg (fun e => z5 (by rw [b6, e.2]; rfl))] at k
      rw [b6, b7, b8]; exact k
    · rw [b5, z0 (by omega)] at z4
      rw [b6] at z5
      have z5' : zrq S i 5 = 1 := n_inj (b := 1) (by omega) (by decide) z5
      rw [if_pos ⟨z4, z5'⟩] at k
      rw [b6, b7, b8]
      revert k
      show Pl (fpN _ _ (mixP (mixP (mixP p (nI (zrq S i 5))) (nI (zrq S i 6))) (zW S i))) G → ∃ (I : Gt → Nat → Int64 → Int32 → Prop) (μ : Gt → Nat → Int64 → Int32 → Nat), I G q (mixP (mixP (mixP p (nI (zrq S i 5))) (nI (zrq S i 6))) (zW S i)) (0 : Int32) ∧ _
      generalize mixP (mixP (mixP p (nI (zrq S i 5))) (nI (zrq S i 6))) (zW S i) = p0
      intro k
      refine ⟨fun K a0 y x => K = G ∧ a0 = q ∧ ∃ j, x = nI j ∧ j ≤ zrq S i 3 ∧ y = fpN (fun k => nI (zV S i k)) j p0, fun _ _ _ x => zrq S i 3 - x.toNatClampNeg, ⟨rfl, rfl, 0, rfl, by omega, rfl⟩, ?_⟩
      rintro K a0 y x ⟨rfl, rfl, j, rfl, hj, rfl⟩
      refine ⟨a1, ?_⟩
      rw [b3, n_le (by omega) (by omega)]
      refine ⟨fun q1 => ?_, fun q1 => ⟨a1, a0 + 1, a2, by rw [a3], by rw [a3]; exact n_in (by omega) (by omega), ?_⟩⟩
      · rw [show j = zrq S i 3 by omega]; exact k
      · rw [n_cl (by omega), v2 z4 z5' j (by omega)]
        exact ⟨⟨rfl, rfl, j + 1, nI_1 j, by omega, rfl⟩, dec_up (by omega) (by omega)⟩
theorem fp1_s {S : St} {n : Nat} : fp1 S (n + 1) = (31 : Int64) * fp1 S n + (nI (zn S (10 + n))).toInt64 := rfl
theorem fp2_s {S : St} {n : Nat} : fp2 S (n + 1) = (31 : Int64) * fp2 S n + (nI (cntP (fun i => decide (zrq S i 5 = n)) (zn S 6))).toInt64 := rfl
theorem fp3_s {S : St} {n : Nat} : fp3 S (n + 1) = rqF S n (fp3 S n) := rfl
theorem fp1_0 {S : St} : fp1 S 0 = (31 : Int64) * 73 + (nI (zn S 0)).toInt64 := rfl
theorem fp2_0 {S : St} : fp2 S 0 = fp1 S 6 := by unfold fp2 fpN; rfl
theorem fp3_0 {S : St} : fp3 S 0 = fp2 S 3 := by unfold fp3 fpR; rfl
theorem fp4_0 {S : St} : fp4 S 0 = fp3 S (zn S 6) := by unfold fp4 fpG; rfl
theorem lf_118 {d : Nat} {k110 : Gt → Nat → Int64 → Int32 → Prop} (h : FX X sd G g c a S L z) (d1 : 1 ≤ d) (d3 : d ≤ 3) (k : k110 G g (fp4 S (32 * (d - 1) + 32)) (nI d + 1)) : ∃ (I : Gt → Nat → Int64 → Int32 → Int32 → Prop) (μ : Gt → Nat → Int64 → Int32 → Int32 → Nat), I G g (fp4 S (32 * (d - 1))) (nI d) (0 : Int32) ∧ ∀ (G : Gt) (a0 : Nat) (y1 : Int64) (x3 : Int32) (x4 : Int32), I G a0 y1 x3 x4 → wX9_fingerprint_118 X Pl Px k110 (fun G' a0' y1' x3' x4' => I G' a0' y1' x3' x4' ∧ μ G' a0' y1' x3' x4' < μ G a0 y1 x3 x4) G a0 y1 x3 x4 := by
  obtain ⟨hk, hs, hn, hd, hc⟩ := h.k
  have hCT := hk.2.2.2.2.2.2.2.1
  have r4 := hk.2.2.1.2.2.2.1
  refine ⟨fun K5 a' y x x' => K5 = G ∧ a' = g ∧ x = nI d ∧ ∃ r, x' = nI r ∧ r ≤ 32 ∧ y = fp4 S (32 * (d - 1) + r), fun _ _ _ _ x' => 32 - x'.toNatClampNeg, ⟨rfl, rfl, rfl, 0, rfl, by omega, rfl⟩, ?_⟩
  rintro K5 a5 y x x' ⟨rfl, rfl, rfl, r, rfl, hr', rfl⟩
  refine ⟨fun q2 => ?_, fun q2 => ?_⟩
  · have e : r = 32 := by have := (n_le (a := 32) (by decide) (by omega)).mp q2; omega
    rw [e]
    exact k
  have hr3 : r < 32 := Nat.lt_of_not_le (fun e => q2 ((n_le (a := 32) (by decide) (by omega)).mpr e))
  obtain ⟨g1, g2, t1, r3, t4, vi, gb, dt, dc⟩ := h.d d1 d3
  refine ⟨g1, c, g2, t1, c + 3, r3, by rw [t4], vi, c + 4 * d, gb, dt.1, c + 4 * d + 1, dt.2.1, by rw [dt.2.2.2.2.1], by rw [dt.2.2.2.2.1]; exact n_in hr3 (by decide), ?_⟩
  rw [n_cl (by omega), (dc.1 r hr3).1]
  refine ⟨g1, c, g2, t1, c + 16, r4, hCT.1, sp_valueOf hCT hc ⟨d1, d3⟩ hr3 ⟨⟨rfl, rfl, rfl, r + 1, nI_1 r, by omega, ?_⟩, dec_up (L := 32) hr3 (by decide)⟩⟩
  exact (fp4_s d1 hr3).symm
theorem lf_110 (h : FX X sd G g c a S L z) (k : Pl (fp4 S 96) G) : ∃ (I : Gt → Nat → Int64 → Int32 → Prop) (μ : Gt → Nat → Int64 → Int32 → Nat), I G g (fp4 S 0) (1 : Int32) ∧ ∀ (G : Gt) (a0 : Nat) (y1 : Int64) (x3 : Int32), I G a0 y1 x3 → wX9_fingerprint_110 X Pl Px (fun G' a0' y1' x3' => I G' a0' y1' x3' ∧ μ G' a0' y1' x3' < μ G a0 y1 x3) G a0 y1 x3 := by
  refine ⟨fun K4 a' y x => K4 = G ∧ a' = g ∧ ∃ d, x = nI d ∧ 1 ≤ d ∧ d ≤ 4 ∧ y = fp4 S (32 * (d - 1)), fun _ _ _ x => 4 - x.toNatClampNeg, ⟨rfl, rfl, 1, rfl, by omega, by omega, congrArg (fp4 S) (by omega)⟩, ?_⟩
  rintro K4 a4 y x ⟨rfl, rfl, d, rfl, d1, d2, rfl⟩
  refine ⟨fun q => ?_, fun q => ?_⟩
  · have e : d = 4 := by have := (n_lt (a := 3) (by decide) (by omega)).mp q; omega
    have e9 : fp4 S 96 = fp4 S (32 * (d - 1)) := congrArg (fp4 S) (by omega)
    rw [e9] at k
    exact k
  have d3 : d ≤ 3 := Nat.le_of_not_lt (fun e => q ((n_lt (a := 3) (by decide) (by omega)).mpr e))
  exact lf_118 h d1 d3 ⟨⟨rfl, rfl, d + 1, nI_1 d, by omega, by omega, congrArg (fp4 S) (by omega)⟩, dec_up (L := 4) (by omega) (by decide)⟩
theorem lf_63 (h : FX X sd G g c a S L z) (k : Pl (fp4 S 96) G) : ∃ (I : Gt → Nat → Int64 → Int32 → Prop) (μ : Gt → Nat → Int64 → Int32 → Nat), I G g (fp3 S 0) (0 : Int32) ∧ ∀ (G : Gt) (a0 : Nat) (y1 : Int64) (x3 : Int32), I G a0 y1 x3 → wX9_fingerprint_63 X Pl Px (fun G' a0' y1' x3' => I G' a0' y1' x3' ∧ μ G' a0' y1' x3' < μ G a0 y1 x3) G a0 y1 x3 := by
  obtain ⟨zq, qs, hq, hl, g1, g2, t1, r5, u1', u2, u3⟩ := h.q
  have h40 : qs.length ≤ 40 := hq.t.2.2.2.2.2.2.2
  refine ⟨fun K3 a' y x => K3 = G ∧ a' = g ∧ ∃ j, x = nI j ∧ j ≤ zn S 6 ∧ y = fp3 S j, fun _ _ _ x => zn S 6 - x.toNatClampNeg, ⟨rfl, rfl, 0, rfl, by omega, rfl⟩, ?_⟩
  rintro K3 a3 y x ⟨rfl, rfl, j, rfl, hj, rfl⟩
  refine ⟨g1, c, g2, t1, c + 19, r5, u1', c + 19 + 1, u2, u3, q_size hq ?_⟩
  rw [hl, n_le (by omega) (by omega)]
  refine ⟨fun q => ?_, fun q => ⟨g1, c, g2, t1, c + 19, r5, u1', c + 19 + 1, u2, u3, q_get hq (by omega) ⟨_, rfl, (hq.e (by omega)).2.2.2.1.1, sp_mixRequest (S := S) (i := j) (hq.e (by omega)) ⟨⟨rfl, rfl, j + 1, nI_1 j, by omega, fp3_s.symm⟩, dec_up (by omega) (by omega)⟩⟩⟩⟩
  have ej : j = zn S 6 := by omega
  rw [ej, ← fp4_0]
  exact lf_110 h k
theorem lf_40 (h : FX X sd G g c a S L z) (hr : rX X G z) (hw : WF S) (k : Pl (fp4 S 96) G) : ∃ (I : Gt → Nat → Int64 → Int32 → Prop) (μ : Gt → Nat → Int64 → Int32 → Nat), I G g (fp2 S 0) (0 : Int32) ∧ ∀ (G : Gt) (a0 : Nat) (y1 : Int64) (x3 : Int32), I G a0 y1 x3 → wX9_fingerprint_40 X Pl Px (fun G' a0' y1' x3' => I G' a0' y1' x3' ∧ μ G' a0' y1' x3' < μ G a0 y1 x3) G a0 y1 x3 := by
  obtain ⟨g1, g2, t1, t71⟩ := h.g1
  refine ⟨fun K2 a' y x => K2 = G ∧ a' = g ∧ ∃ j, x = nI j ∧ j ≤ 3 ∧ y = fp2 S j, fun _ _ _ x => 3 - x.toNatClampNeg, ⟨rfl, rfl, 0, rfl, by omega, rfl⟩, ?_⟩
  rintro K2 a2 y x ⟨rfl, rfl, j, rfl, hj, rfl⟩
  refine ⟨fun q => ?_, fun q => ⟨g1, ?_⟩⟩
  · have e3 : j = 3 := by have := (n_le (a := 3) (by decide) (by omega)).mp q; omega
    rw [e3, ← fp3_0]
    exact lf_63 h k
  · have hj3 : j < 3 := Nat.lt_of_not_le (fun e => q ((n_le (a := 3) (by decide) (by omega)).mpr e))
    refine fx_requests h hr hw (fun e => (i_bad (lo := 0) (hi := 2) e rfl (Nat.zero_le _) (show j ≤ 2 by omega) (by decide)).elim) (fun i e hi _ => ?_)
    have ei : i = j := n_inj (by omega) (by omega) e.symm
    rw [ei]
    exact ⟨⟨rfl, rfl, j + 1, nI_1 j, by omega, fp2_s.symm⟩, dec_up (L := 3) hj3 (by decide)⟩
theorem fx_fingerprint (h : FX X sd G g c a S L z) (hr : rX X G z) (hw : WF S)
    (k : FO X sd G g c a z S L G → Pl (fp4 S 96) G) : wX9_fingerprint X G g Pl Px := by
  obtain ⟨g1, g2, t1, t71⟩ := h.g1
  refine ⟨g1, c, g2, t1, ?_⟩
  rw [t71]
  refine ⟨fun K a0 y x => K = G ∧ a0 = g ∧ ∃ j, x = nI j ∧ j ≤ 6 ∧ y = fp1 S j, fun _ _ _ x => 6 - x.toNatClampNeg, ⟨rfl, rfl, 0, rfl, by omega, fp1_0.symm⟩, ?_⟩
  rintro K a0 y x ⟨rfl, rfl, j, rfl, hj, rfl⟩
  refine ⟨fun q => ?_, fun q => ⟨g1, ?_⟩⟩
  · have e6 : j = 6 := by have := (n_le (a := 6) (by decide) (by omega)).mp q; omega
    rw [e6, ← fp2_0]
    exact lf_40 h hr hw (k h.f0)
  · have hj6 : j < 6 := Nat.lt_of_not_le (fun e => q ((n_le (a := 6) (by decide) (by omega)).mpr e))
    refine fx_count h hr (fun e => (i_bad (lo := 0) (hi := 5) e rfl (Nat.zero_le _) (show j ≤ 5 by omega) (by decide)).elim) (fun i e hi _ => ?_)
    have ei : i = j := n_inj (by omega) (by omega) e.symm
    rw [ei]
    exact ⟨⟨rfl, rfl, j + 1, nI_1 j, by omega, fp1_s.symm⟩, dec_up (L := 6) hj6 (by decide)⟩
end FPRINT
