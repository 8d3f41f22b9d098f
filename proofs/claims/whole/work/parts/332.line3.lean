/-! ===== Line: take, drop ===== -/
def fitsB (r s : List Nat) : Bool := r.getD 0 0 == s.getD 0 0 && (r.getD 1 0 == s.getD 1 0 + 128 || (r.getD 1 0 == s.getD 1 0 && ((s.getD 1 0 == 3 && r.getD 2 0 == 2 * wd s 4) || (s.getD 1 0 != 3 && wd r 2 == wd s 2 && wd r 4 == wd s 4)))) && crcN 65535 r == 0
theorem fitsB_iff {r s : List Nat} : fitsB r s = true ↔ fitsTo r s := by
  unfold fitsB fitsTo
  simp only [Bool.and_eq_true, Bool.or_eq_true, beq_iff_eq, bne_iff_ne, ne_eq, and_assoc]
/-- the replies looked at, with m looks left: the one that fits, and what stays -/
def tkS (s : List Nat) (u : Nat) : Nat → List Rp → Option Rp × List Rp
  | 0, L => (none, L)
  | m + 1, L => match erl L u with
    | none => (none, L)
    | some i => if fitsB (L.getD i dr).2.2 s then (some (L.getD i dr), L.eraseIdx i) else tkS s u m (L.eraseIdx i)
theorem tkS_s {s : List Nat} {u m : Nat} {L : List Rp} : tkS s u (m + 1) L = match erl L u with
    | none => (none, L)
    | some i => if fitsB (L.getD i dr).2.2 s then (some (L.getD i dr), L.eraseIdx i) else tkS s u m (L.eraseIdx i) := rfl
/-- room for the line's costs to come -/
def rm (X : Xt) (G : Gt) (z N : Nat) : Prop := gH G + (20 + 7 * N) + 3 ≤ xC X + z ∧ gU G + 14 * (20 + 7 * N) + (52 + 2 * N) ≤ xS X + 14 * z ∧ xde X < gH G
section LINE3
variable {X : Xt} {sd : Nat → Nat} {s : Nat} {G : Gt} {n N z : Nat} {rs sp hd pool : List Nat} {L : List Rp}
theorem rm.st {G' : Gt} {z' : Nat} (h : rm X G z N) (c : cost G G' z z') (hh : gH G ≤ gH G') : rm X G' z' N := by
  obtain ⟨a1, a2, a3⟩ := h
  obtain ⟨b1, b2, b3⟩ := c
  exact ⟨by omega, by omega, by omega⟩
theorem ln_z (h : LN X sd s G n N z rs sp hd pool L) : z ≤ 20 + 7 * N := by
  obtain ⟨br, cr, bs, cs, _, _, _, _, _, _, _, _, _, hpn, hcr, hcs, hz, _, _⟩ := h
  omega
theorem ln_l (h : LN X sd s G n N z rs sp hd pool L) : rs.length = L.length ∧ rs.length + sp.length + hd.length ≤ N := by
  obtain ⟨br, cr, bs, cs, _, _, _, _, _, _, hp, _, _, hpn, hcr, hcs, hz, hL, _⟩ := h
  have := hp.length_eq
  simp only [List.length_append] at this
  exact ⟨hL, by omega⟩
theorem sp_rec {y : Nat} {Pr : Gt → Prop} (h : LN X sd s G n N z rs sp (y :: hd) pool L) (hN : N ≤ 2000) (hs : ∀ a, gH G ≤ a → sd a = s) (hr : rm X G z N)
    (k : ∀ G' z', LN X sd s G' n N z' rs (sp ++ [y]) hd pool L → ch G G' (lcs sd s G) → cost G G' z z' → rm X G' z' N → Pr G') : wX4_recycle X G n y Pr := by
  have hz := ln_z h
  refine sp_recycle h hN hr.2.2 hs (by have := hr.1; omega) (by have := hr.2.1; omega) (fun G' z' a1 a2 a3 => k G' z' a1 a2 a3 (hr.st a3 a2.1))
theorem sp_take {u f bb : Nat} {sf : List Nat} {Pr : Option Nat → Gt → Prop} {Px : String → Gt → Prop} (h : LN X sd s G n N z rs sp hd pool L) (hN : N ≤ 2000) (hs : ∀ a, gH G ≤ a → sd a = s) (hr : rm X G z N) (hB : ∀ r ∈ L, r.1 < 2 ^ 30 ∧ 2 ≤ r.2.2.length) (hu : u < 2 ^ 30) (hf : FR G f bb sf) (hfs : sd f ≠ s ∧ sd bb ≠ s ∧ f < gH G ∧ bb < gH G)
    (k0 : ∀ G' z' rs' sp' L', tkS sf u L.length L = (none, L') → LN X sd s G' n N z' rs' sp' hd pool L' → ch G G' (lcs sd s G) → cost G G' z z' → rm X G' z' N → Pr none G')
    (k1 : ∀ G' z' rs' sp' L' y r, tkS sf u L.length L = (some r, L') → LN X sd s G' n N z' rs' sp' (y :: hd) pool L' → RP G' y r.1 r.2.1 r.2.2 → ch G G' (lcs sd s G) → cost G G' z z' → rm X G' z' N → Pr (some y) G') : wX4_take X G n f (nI u) Pr Px := by
  have hl := ln_l h
  obtain ⟨br, cr, bs, cs, ⟨t1, t2, t3, t4, t5, t6, t7⟩, hrl, hsp, _⟩ := id h
  refine ⟨t1, n + 1, t2, hrl.1, sp_size hrl ?_⟩
  refine ⟨fun g a0 a1 x2 x3 x4 => a0 = n ∧ a1 = f ∧ x2 = nI u ∧ x3 = nI L.length ∧ ∃ k zc rc sc Lc, k ≤ L.length ∧ x4 = nI k ∧ LN X sd s g n N zc rc sc hd pool Lc ∧ (∀ r ∈ Lc, r ∈ L) ∧ tkS sf u (L.length - k) Lc = tkS sf u L.length L ∧ ch G g (lcs sd s G) ∧ cost G g z zc ∧ rm X g zc N, fun _ _ _ _ _ x4 => L.length - x4.toNatClampNeg, ⟨rfl, rfl, rfl, by rw [hl.1], 0, z, rs, sp, L, by omega, rfl, h, fun _ hr => hr, rfl, ch.rf, cost_rf, hr⟩, ?_⟩
  rintro g a0 a1 x2 x3 x4 ⟨rfl, rfl, rfl, rfl, k, zc, rc, sc, Lc, hk, rfl, hc, hsub, htk, hch, hco, hrm⟩
  have hs' : ∀ a, gH g ≤ a → sd a = s := fun a ha => hs a (Nat.le_trans hch.1 ha)
  have hlc := ln_l hc
  refine ⟨fun q => ?_, fun q => ?_⟩
  · have q' : L.length ≤ k := (n_le (by omega) (by omega)).mp q
    rw [show L.length - k = 0 by omega] at htk
    exact k0 g zc rc sc Lc htk.symm hc hch hco hrm
  · have q' : k < L.length := Nat.lt_of_not_le (fun e => q ((n_le (by omega) (by omega)).mpr e))
    obtain ⟨br', cr', bs', cs', ⟨u1, u2, u3, u4, u5, u6, u7⟩, hrl', hsp', _⟩ := id hc
    refine ⟨u1, sp_earliest hc (fun r hr => (hB r (hsub r hr)).1) hu ?_⟩
    rw [show L.length - k = (L.length - (k + 1)) + 1 by omega, tkS_s] at htk
    cases he : erl Lc u with
    | none =>
      rw [he] at htk
      exact ⟨fun z => absurd z (by decide), fun _ => k0 g zc rc sc Lc htk.symm hc hch hco hrm⟩
    | some i =>
      rw [he] at htk
      have hi : i < Lc.length := erS_i _ _ he
      refine ⟨fun _ => ⟨u1, a0 + 1, u2, hrl'.1, lp_rem hc (by omega) (fun G2 a1' a2' a3' a4' a5' => ?_)⟩, fun z => absurd (nI_pos' (n := i) (by omega)) z⟩
      have hch2 : ch G G2 (lcs sd s G) := lcs_tr hch (a3'.mono (fun a _ hh => lcs_of hh))
      have hco2 : cost G G2 z zc := cost_tr hco ⟨Nat.le_refl _, by omega, by omega⟩
      have hrm2 : rm X G2 zc N := ⟨by rw [a4']; exact hrm.1, by rw [a5']; exact hrm.2.1, by rw [a4']; exact hrm.2.2⟩
      have hf2 : FR G2 a1 bb sf := hf.keep (hch2.2.2.1 _ hfs.2.2.1 (fun z => hfs.1 z.1)) (hch2.2.2.1 _ hfs.2.2.2 (fun z => hfs.2.1 z.1))
      have hsz := (hB _ (hsub _ (gRd (k := i) (L := Lc) hi))).2
      refine ⟨_, rfl, a2'.1, a2'.1, _, a2'.2.1, a2'.2.2.1.1, sp_isReplyTo a2'.2.2.1 hsz hf2 (fun z => ⟨fun z2 => absurd z2 (by decide), fun _ => ?_⟩) (fun z => ⟨fun _ => ?_, fun z2 => absurd rfl z2⟩)⟩
      · dsimp only at htk
        rw [if_pos (fitsB_iff.mpr z)] at htk
        exact k1 G2 zc _ _ _ _ _ htk.symm a1' a2' hch2 hco2 hrm2
      · dsimp only at htk
        rw [if_neg (fun e => z (fitsB_iff.mp e))] at htk
        obtain ⟨_, _, _, _, ⟨w1, _⟩, _⟩ := id a1'
        refine ⟨w1, sp_rec a1' hN (fun a ha => hs' a (by omega)) hrm2 (fun G3 z3 b1 b2 b3 b4 => ⟨⟨rfl, rfl, rfl, rfl, k + 1, z3, _, _, _, by omega, nI_1 k, b1, fun r hr => hsub r (List.mem_of_mem_eraseIdx hr), htk, lcs_tr hch2 b2, cost_tr hco2 b3, b4⟩, ?_⟩)⟩
        dsimp only
        rw [nI_1, n_cl (by omega), n_cl (by omega)]; omega
end LINE3
