/-! ===== the law ===== -/
theorem ch_nE {G : Gt} {n : Nat} {P : Nat → Prop} : ch G (nE G n) P := ⟨Nat.le_succ _, fun a ha => va_up_ne _ _ (Nat.ne_of_lt ha), fun a ha _ => eqAt.nE (Nat.ne_of_lt ha), fun _ _ _ _ _ => rfl, fun _ _ _ => rfl⟩
theorem lc_b {m i : Nat} : m + 1 ≤ lc m i ∧ lc m i ≤ m + 7 := by unfold lc; (repeat' split) <;> omega
theorem LI.up {X : Xt} {n u k : Nat} {G : Gt} {g m o : Nat} (h : LI X n u k G g m o) : LI X n u (k + 1) G g m o := by
  obtain ⟨sd, c, a, ℓ, S, L, z, h1, h2, h3, h4, h5, h6, h7⟩ := h
  exact ⟨sd, c, a, ℓ, S, L, z, h1, h2, h3, h4, h5.up, by omega, by omega⟩
theorem lw_end {L j : Nat} (hL : L ≤ 2560) (hj : j ≤ 2560) (h : ¬ (nI L - 5 < nI j)) : j + 5 ≤ L := by
  have ti : (nI j).toInt = (j : Int) := by
    show (BitVec.ofNat 32 j).toInt = _
    rw [BitVec.toInt_eq_toNat_cond, BitVec.toNat_ofNat, Nat.mod_eq_of_lt (by omega), if_pos (by omega)]
  by_cases h5 : 5 ≤ L
  · rw [show nI L - 5 = nI (L - 5) from n_sub (b := 5) h5, n_lt (by omega) (by omega)] at h
    omega
  · exfalso
    apply h
    rw [Int32.lt_iff_toInt_lt, ti]
    rcases (show L = 0 ∨ L = 1 ∨ L = 2 ∨ L = 3 ∨ L = 4 by omega) with e | e | e | e | e <;> subst e
    · have : (nI 0 - 5).toInt = -5 := by decide
      omega
    · have : (nI 1 - 5).toInt = -4 := by decide
      omega
    · have : (nI 2 - 5).toInt = -3 := by decide
      omega
    · have : (nI 3 - 5).toInt = -2 := by decide
      omega
    · have : (nI 4 - 5).toInt = -1 := by decide
      omega
set_option maxHeartbeats 4000000 in
theorem lw_body {X : Xt} {n u k : Nat} {G : Gt} {a1 a2 a3 b L : Nat} {xs : Nat → Int32} {Pr : Int32 → Gt → Prop} {k23 : Gt → Nat → Nat → Nat → Nat → Int32 → Prop} (hL : L ≤ 2560) (hC : n + 10000 ≤ xC X) (hS : u + 200000 ≤ xS X) (h : LI X n u k G a1 a2 a3) (hkL : 5 * k ≤ L) (hP : ∀ G', Pr 1 G') (kk : 5 * k + 5 ≤ L → ∀ G', LI X n u (k + 1) G' a1 a2 a3 → k23 G' b a1 a2 a3 (nI (5 * k) + 5)) : wL_law_23 X b xs L Pr k23 G b a1 a2 a3 (nI (5 * k)) := by
  refine ⟨rfl, fun _ => hP G, fun q => ?_⟩
  have h5 := lw_end hL (by omega) q
  have V : ∀ j, j < 5 → vp_in (nI (5 * k) + nI j) L := fun j hj => by rw [n_add]; exact n_in (by omega) (by omega)
  have V1 : vp_in (nI (5 * k) + 1) L := V 1 (by decide)
  have V2 : vp_in (nI (5 * k) + 2) L := V 2 (by decide)
  have V3 : vp_in (nI (5 * k) + 3) L := V 3 (by decide)
  have V4 : vp_in (nI (5 * k) + 4) L := V 4 (by decide)
  have kk' := kk h5
  have up := kk' G h.up
  obtain ⟨sd, c, a, ℓ, S, LL, z, hq⟩ := h
  have hk : k ≤ 511 := by omega
  have hr : rX X G z := hq.r (by omega) hC hS
  clear kk q hkL
  refine ⟨rfl, n_in (by omega) (by omega), ?_⟩
  intro z41 _
  refine ⟨fun _ => up, fun _ => ?_, fun _ => ?_, fun _ => ?_, fun _ => ?_, fun _ => ?_, fun _ => ?_, fun _ => ?_, fun _ => ?_, fun _ => ?_, fun _ => ?_, fun _ => ?_, fun _ => ?_, fun _ => ?_, fun _ => ?_, fun _ => ?_, fun _ => ?_, fun _ => ?_, fun _ => ?_, fun _ => ?_, fun _ => ?_, fun _ => ?_, fun _ => ?_, fun _ => ?_, fun _ => ?_, fun _ => ?_, fun _ => ?_, fun _ => ?_, fun _ => ?_, fun _ => ?_⟩
  · exact ⟨rfl, V1, rfl, V2, cs_set (K := fun G' => k23 G' b a1 a2 a3 (nI (5 * k) + 5)) (P0 := Pr 0) hq hr hk kk' (fun r G' q => ⟨rfl, V1, rfl, V2, q⟩)⟩
  · exact ⟨rfl, V1, rfl, V2, rfl, V3, cs_setDevice (K := fun G' => k23 G' b a1 a2 a3 (nI (5 * k) + 5)) (P0 := Pr 0) hq hr hk kk' (fun r G' q => ⟨rfl, V1, rfl, V2, rfl, V3, q⟩)⟩
  · exact ⟨rfl, V1, rfl, V2, rfl, V3, cs_poke (K := fun G' => k23 G' b a1 a2 a3 (nI (5 * k) + 5)) (P0 := Pr 0) hq hr hk kk' (fun r G' q => ⟨rfl, V1, rfl, V2, rfl, V3, q⟩)⟩
  · exact ⟨rfl, V1, rfl, V2, cs_peek (K := fun G' => k23 G' b a1 a2 a3 (nI (5 * k) + 5)) (P0 := Pr 0) hq hr hk kk' (fun r G' q => ⟨rfl, V1, rfl, V2, q⟩)⟩
  · exact ⟨rfl, V1, rfl, V2, rfl, V3, fun z3 => cs_protect (K := fun G' => k23 G' b a1 a2 a3 (nI (5 * k) + 5)) (P0 := Pr 0) hq hr hk kk' (fun r G' q => ⟨rfl, V1, rfl, V2, rfl, V3, fun _ => q, fun w => absurd z3 w⟩), fun z3 => cs_protect (K := fun G' => k23 G' b a1 a2 a3 (nI (5 * k) + 5)) (P0 := Pr 0) hq hr hk kk' (fun r G' q => ⟨rfl, V1, rfl, V2, rfl, V3, fun w => absurd w z3, fun _ => q⟩)⟩
  · exact ⟨rfl, V1, rfl, V2, rfl, V3, cs_fault (K := fun G' => k23 G' b a1 a2 a3 (nI (5 * k) + 5)) (P0 := Pr 0) hq hr hk kk' (fun r G' q => ⟨rfl, V1, rfl, V2, rfl, V3, q⟩)⟩
  · exact ⟨rfl, V1, rfl, V2, rfl, V3, rfl, V4, cs_read (K := fun G' => k23 G' b a1 a2 a3 (nI (5 * k) + 5)) (P0 := Pr 0) hq hr hk kk' (fun r G' q => ⟨rfl, V1, rfl, V2, rfl, V3, rfl, V4, q⟩)⟩
  · exact ⟨rfl, V1, rfl, V2, rfl, V3, rfl, V4, cs_write (K := fun G' => k23 G' b a1 a2 a3 (nI (5 * k) + 5)) (P0 := Pr 0) hq hr hk kk' (fun r G' q => ⟨rfl, V1, rfl, V2, rfl, V3, rfl, V4, q⟩)⟩
  · exact ⟨rfl, V1, rfl, V2, cs_request (K := fun G' => k23 G' b a1 a2 a3 (nI (5 * k) + 5)) (P0 := Pr 0) hq hr hk kk' (fun r G' q => ⟨rfl, V1, rfl, V2, q⟩)⟩
  · exact ⟨rfl, V1, rfl, V2, cs_value (K := fun G' => k23 G' b a1 a2 a3 (nI (5 * k) + 5)) (P0 := Pr 0) hq hr hk kk' (fun r G' q => ⟨rfl, V1, rfl, V2, q⟩)⟩
  · exact ⟨rfl, V1, cs_requests (K := fun G' => k23 G' b a1 a2 a3 (nI (5 * k) + 5)) (P0 := Pr 0) hq hr hk kk' (fun r G' q => ⟨rfl, V1, q⟩)⟩
  · exact ⟨rfl, V1, rfl, V2, cs_requestsOf (K := fun G' => k23 G' b a1 a2 a3 (nI (5 * k) + 5)) (P0 := Pr 0) hq hr hk kk' (fun r G' q => ⟨rfl, V1, rfl, V2, q⟩)⟩
  · exact cs_step (K := fun G' => k23 G' b a1 a2 a3 (nI (5 * k) + 5)) (P0 := Pr 0) hq hr kk'
  · exact cs_finish (K := fun G' => k23 G' b a1 a2 a3 (nI (5 * k) + 5)) (P0 := Pr 0) hq hr kk'
  · exact ⟨rfl, V1, cs_pass (K := fun G' => k23 G' b a1 a2 a3 (nI (5 * k) + 5)) (P0 := Pr 0) hq hr hk kk' (fun r G' q => ⟨rfl, V1, q⟩)⟩
  · exact cs_time (K := fun G' => k23 G' b a1 a2 a3 (nI (5 * k) + 5)) (P0 := Pr 0) hq kk'
  · exact cs_group (K := fun G' => k23 G' b a1 a2 a3 (nI (5 * k) + 5)) (P0 := Pr 0) hq kk'
  · exact ⟨rfl, V1, cs_frameByte (K := fun G' => k23 G' b a1 a2 a3 (nI (5 * k) + 5)) (P0 := Pr 0) hq hr hk kk' (fun r G' q => ⟨rfl, V1, q⟩)⟩
  · exact ⟨rfl, V1, rfl, V2, cs_cacheAge (K := fun G' => k23 G' b a1 a2 a3 (nI (5 * k) + 5)) (P0 := Pr 0) hq hr hk kk' (fun r G' q => ⟨rfl, V1, rfl, V2, q⟩)⟩
  · exact ⟨rfl, V1, rfl, V2, cs_cached (K := fun G' => k23 G' b a1 a2 a3 (nI (5 * k) + 5)) (P0 := Pr 0) hq hr hk kk' (fun r G' q => ⟨rfl, V1, rfl, V2, q⟩)⟩
  · exact cs_clearCache (K := fun G' => k23 G' b a1 a2 a3 (nI (5 * k) + 5)) (P0 := Pr 0) hq kk'
  · exact ⟨rfl, V1, cs_count (K := fun G' => k23 G' b a1 a2 a3 (nI (5 * k) + 5)) (P0 := Pr 0) hq hr hk kk' (fun r G' q => ⟨rfl, V1, q⟩)⟩
  · exact ⟨rfl, V1, cs_leastDrain (K := fun G' => k23 G' b a1 a2 a3 (nI (5 * k) + 5)) (P0 := Pr 0) hq hr hk kk' (fun r G' q => ⟨rfl, V1, q⟩)⟩
  · exact ⟨rfl, V1, rfl, V2, cs_feed (K := fun G' => k23 G' b a1 a2 a3 (nI (5 * k) + 5)) (P0 := Pr 0) hq hr hk kk' (fun r G' q => ⟨rfl, V1, rfl, V2, q⟩)⟩
  · exact cs_endFrame (K := fun G' => k23 G' b a1 a2 a3 (nI (5 * k) + 5)) (P0 := Pr 0) hq hk kk'
  · exact ⟨rfl, V1, cs_verdict (K := fun G' => k23 G' b a1 a2 a3 (nI (5 * k) + 5)) (P0 := Pr 0) hq hr hk kk' (fun r G' q => ⟨rfl, V1, q⟩)⟩
  · exact ⟨rfl, V1, cs_length (K := fun G' => k23 G' b a1 a2 a3 (nI (5 * k) + 5)) (P0 := Pr 0) hq hr hk kk' (fun r G' q => ⟨rfl, V1, q⟩)⟩
  · exact cs_checksum (K := fun G' => k23 G' b a1 a2 a3 (nI (5 * k) + 5)) (P0 := Pr 0) hq kk'
  · exact cs_fingerprint (K := fun G' => k23 G' b a1 a2 a3 (nI (5 * k) + 5)) (P0 := Pr 0) hq hr kk'
def g0 (n u de : Nat) : Gt := ((fun a => if a = de then (6, 0) else (0, 0)), (n, u), (fun _ _ => 0), (fun _ _ => 0), (fun _ _ => none), (fun _ _ => 0), (fun _ _ => none), (fun _ _ => 0))
theorem pure_law (X : Xt) (n u : Nat) (hde : xde X < n) (hC : n + 10000 ≤ xC X) (hS : u + 200000 ≤ xS X) (b L : Nat) (xs : Nat → Int32) (hL : L ≤ 2560) : wL_law X b xs L (fun r _ => r = 1) (g0 n u (xde X)) b := by
  have n1 : gH (g0 n u (xde X)) = n := rfl
  have n2 : gU (g0 n u (xde X)) = u := rfl
  have n3 : gT (g0 n u (xde X)) (xde X) = (6, 0) := if_pos rfl
  revert n1 n2 n3
  generalize g0 n u (xde X) = G
  intro n1 n2 n3
  refine ⟨by omega, by omega, ?_⟩
  rintro G1 rfl
  refine fx_new (by omega) n3 (by omega) (by omega) (fun G2 f2 h2 u2 c2 => ⟨by omega, by omega, ?_⟩)
  rintro G3 rfl
  refine sm_init (by omega) (by omega) (fun G4 ml mv mh h4 u4 c4 => ⟨by omega, by omega, ?_⟩)
  rintro G5 rfl
  rw [n1] at f2
  have first : LI X n u 0 (nE G4 1) (gH G) (gH G2) (gH G4) := by
    have e0 : ∀ x, x < gH G2 → (fun x => if x < gH G2 then gcol n x else 7) x = gcol n x := fun x hx => if_pos hx
    have e7 : ∀ x, gH G2 ≤ x → (fun x => if x < gH G2 then gcol n x else 7) x = 7 := fun x hx => if_neg (by omega)
    revert e0 e7
    generalize (fun x => if x < gH G2 then gcol n x else 7) = sd
    intro e0 e7
    have f4 : FX X sd G4 n (n + 1) (n + 27) S0 H0 0 := (f2.rc e0).keep c4 (fun _ z => z.elim)
    have f5 : FX X sd (nE G4 1) n (n + 1) (n + 27) S0 H0 0 := f4.keep (ch_nE (P := fun _ => False)) (fun _ z => z.elim)
    have m4 : MR sd G4 (gH G2) (lc (gH G2)) S0 H0 := ⟨ml, mv, mh, by omega, e7 _ (Nat.le_refl _), fun i _ => ⟨by have := (lc_b (m := gH G2) (i := i)).2; omega, e7 _ (by have := (lc_b (m := gH G2) (i := i)).1; omega)⟩⟩
    have m5 : MR sd (nE G4 1) (gH G2) (lc (gH G2)) S0 H0 := m4.keep ch_nE (fun _ _ => rfl)
    have o5 : OU sd (nE G4 1) (gH G4) := ⟨va_up_self _ _ _, Nat.lt_succ_self _, e7 _ (by omega)⟩
    rw [n1]
    refine ⟨sd, n + 1, n + 27, lc (gH G2), S0, H0, 0, f5, m5, o5, ok_0, ⟨Nat.le_refl _, Nat.le_refl _, Nat.zero_le _, fun _ => rfl⟩, ?_, ?_⟩
    · show gH G4 + 1 ≤ _; omega
    · show gU G4 + 1 ≤ _; omega
  revert first
  generalize nE G4 1 = G5
  intro first
  refine ⟨fun K a0 a1 a2 a3 x4 => a0 = b ∧ ∃ k, x4 = nI (5 * k) ∧ 5 * k ≤ L ∧ LI X n u k K a1 a2 a3, fun _ _ _ _ _ x4 => 3000 - x4.toNatClampNeg, ⟨rfl, 0, rfl, Nat.zero_le _, first⟩, ?_⟩
  rintro K a0 a1 a2 a3 x4 ⟨ea, k, rfl, hk, hI⟩
  rw [ea]
  refine lw_body hL hC hS hI hk (fun _ => rfl) (fun h5 G' hI' => ⟨⟨rfl, k + 1, ?_, by omega, hI'⟩, ?_⟩)
  · rw [show nI (5 * k) + 5 = nI (5 * k + 5) from n_add (b := 5)]; congr 1
  · show 3000 - (nI (5 * k) + 5).toNatClampNeg < 3000 - (nI (5 * k)).toNatClampNeg
    rw [show nI (5 * k) + 5 = nI (5 * k + 5) from n_add (b := 5), n_cl (by omega), n_cl (by omega)]
    omega
