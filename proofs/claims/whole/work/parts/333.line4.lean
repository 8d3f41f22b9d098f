/-! ===== Line: drop ===== -/
def dpL (L : List Rp) (t k : Nat) : List Rp := L.take k ++ (L.drop k).filter (fun r => decide (t ≤ r.1))
theorem dpL_len (L : List Rp) (t : Nat) : dpL L t L.length = L := by
  unfold dpL
  simp
theorem dpL_0 (L : List Rp) (t : Nat) : dpL L t 0 = L.filter (fun r => decide (t ≤ r.1)) := rfl
theorem drop_c {L : List Rp} {j : Nat} (h : j < L.length) : L.drop j = L.getD j dr :: L.drop (j + 1) := by
  rw [List.drop_eq_getElem_cons h]
  simp [List.getD, h]
theorem take_c {L : List Rp} {j : Nat} (h : j < L.length) : L.take (j + 1) = L.take j ++ [L.getD j dr] := by
  rw [List.take_succ]
  simp [List.getD, h]
theorem dpL_y {L : List Rp} {t j : Nat} (h : j < L.length) (hp : t ≤ (L.getD j dr).1) : dpL L t (j + 1) = dpL L t j := by
  unfold dpL
  rw [take_c h, drop_c h, List.filter_cons_of_pos (by simpa using hp), List.append_assoc]
  rfl
theorem dpL_n {L : List Rp} {t j : Nat} (h : j < L.length) (hp : ¬ t ≤ (L.getD j dr).1) : (dpL L t (j + 1)).eraseIdx j = dpL L t j := by
  unfold dpL
  rw [take_c h, drop_c h, List.filter_cons_of_neg (by simpa using hp), List.append_assoc]
  have hl : (L.take j).length = j := by rw [List.length_take]; omega
  rw [List.eraseIdx_append_of_length_le (by omega), hl]
  simp
theorem dpL_j {L : List Rp} {t j : Nat} (h : j < L.length) : j < (dpL L t (j + 1)).length ∧ (dpL L t (j + 1)).getD j dr = L.getD j dr := by
  have hl : (L.take j).length = j := by rw [List.length_take]; omega
  unfold dpL
  rw [take_c h]
  constructor
  · simp only [List.length_append, hl, List.length_cons]; omega
  · rw [List.append_assoc]
    simp [List.getD, List.getElem?_append_right, hl, h]
theorem dpL_sub {L : List Rp} {t k : Nat} : ∀ r ∈ dpL L t k, r ∈ L := fun r hr => by
  unfold dpL at hr
  rcases List.mem_append.mp hr with q | q
  · exact List.mem_of_mem_take q
  · exact List.mem_of_mem_drop (List.mem_filter.mp q).1
section LINE4
variable {X : Xt} {sd : Nat → Nat} {s : Nat} {G : Gt} {n N z : Nat} {rs sp hd pool : List Nat} {L : List Rp}
theorem sp_dropBefore {t : Nat} {Pr : Gt → Prop} {Px : String → Gt → Prop} (h : LN X sd s G n N z rs sp hd pool L) (hN : N ≤ 2000) (hs : ∀ a, gH G ≤ a → sd a = s) (hr : rm X G z N) (hB : ∀ r ∈ L, r.1 < 2 ^ 30) (ht : t < 2 ^ 30)
    (k0 : ∀ G' z' rs' sp', LN X sd s G' n N z' rs' sp' hd pool (L.filter (fun r => decide (t ≤ r.1))) → ch G G' (lcs sd s G) → cost G G' z z' → rm X G' z' N → Pr G') : wX4_dropBefore X G n (nI t) Pr Px := by
  have hl := ln_l h
  obtain ⟨br, cr, bs, cs, ⟨t1, t2, t3, t4, t5, t6, t7⟩, hrl, hsp, _⟩ := id h
  refine ⟨t1, n + 1, t2, hrl.1, sp_size hrl ?_⟩
  refine ⟨fun g a0 x1 x2 => a0 = n ∧ x1 = nI t ∧ ∃ k zc rc sc, k ≤ L.length ∧ x2 = nI k - 1 ∧ LN X sd s g n N zc rc sc hd pool (dpL L t k) ∧ ch G g (lcs sd s G) ∧ cost G g z zc ∧ rm X g zc N, fun _ _ _ x2 => (x2 + 1).toNatClampNeg, ⟨rfl, rfl, L.length, z, rs, sp, by omega, by rw [hl.1], by rw [dpL_len]; exact h, ch.rf, cost_rf, hr⟩, ?_⟩
  rintro g a0 x1 x2 ⟨rfl, rfl, k, zc, rc, sc, hk, rfl, hc, hch, hco, hrm⟩
  have hs' : ∀ a, gH g ≤ a → sd a = s := fun a ha => hs a (Nat.le_trans hch.1 ha)
  have hlc := ln_l hc
  cases k with
  | zero =>
    exact ⟨fun _ => k0 g zc rc sc hc hch hco hrm, fun z => absurd (by decide) z⟩
  | succ j =>
    have ej : nI (j + 1) - 1 = nI j := nI_pred j
    rw [ej]
    have dec : (nI j + -1 + 1).toNatClampNeg < (nI j + 1).toNatClampNeg := by
      rw [show nI j + -1 + 1 = nI j by rw [Int32.add_assoc]; exact Int32.add_zero _, nI_1, n_cl (by omega), n_cl (by omega)]; omega
    have em : nI j + -1 = nI j - 1 := (Int32.sub_eq_add_neg _ _).symm
    obtain ⟨d1, d2⟩ := dpL_j (L := L) (t := t) (j := j) (by omega)
    obtain ⟨br', cr', bs', cs', ⟨u1, u2, u3, u4, u5, u6, u7⟩, hrl', hsp', _, _, _, _, _, _, _, _, _, _, _, hRP⟩ := id hc
    have hrp := hRP j (by omega)
    rw [d2] at hrp
    have hb := hB _ (gRd (k := j) (L := L) (by omega))
    refine ⟨fun z => absurd z (n_neg (by omega)), fun _ => ⟨u1, a0 + 1, u2, hrl'.1, sp_get hrl' (by omega) ⟨_, rfl, hrp.1, hrp.1, fun zq => ?_, fun zq => ?_⟩⟩⟩
    · rw [hrp.2.2.2.1] at zq
      have z' := (n_le (by omega) (by omega)).mp zq
      rw [dpL_y (by omega) z'] at hc
      exact ⟨⟨rfl, rfl, j, zc, rc, sc, by omega, em, hc, hch, hco, hrm⟩, dec⟩
    · rw [hrp.2.2.2.1] at zq
      have z' : ¬ t ≤ (L.getD j dr).1 := fun e => zq ((n_le (by omega) (by omega)).mpr e)
      refine ⟨u1, a0 + 1, u2, hrl'.1, lp_rem hc (by omega) (fun G2 a1' a2' a3' a4' a5' => ?_)⟩
      have hch2 : ch G G2 (lcs sd s G) := lcs_tr hch (a3'.mono (fun a _ hh => lcs_of hh))
      have hco2 : cost G G2 z zc := cost_tr hco ⟨Nat.le_refl _, by omega, by omega⟩
      have hrm2 : rm X G2 zc N := ⟨by rw [a4']; exact hrm.1, by rw [a5']; exact hrm.2.1, by rw [a4']; exact hrm.2.2⟩
      rw [dpL_n (by omega) z'] at a1'
      obtain ⟨_, _, _, _, ⟨w1, _⟩, _⟩ := id a1'
      exact ⟨_, rfl, a2'.1, w1, sp_rec a1' hN (fun a ha => hs' a (by omega)) hrm2 (fun G3 z3 b1 b2 b3 b4 => ⟨⟨rfl, rfl, j, z3, _, _, by omega, em, b1, lcs_tr hch2 b2, cost_tr hco2 b3, b4⟩, dec⟩)⟩
end LINE4
