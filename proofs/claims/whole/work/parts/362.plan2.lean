/-! ===== Core: the whole plan ===== -/
theorem grp_ok {S : St} (h : WF S) (hq : fwN (zrq S) (zn S 6) < zn S 6) : gM (grpG S) < 2 ^ 40 ∧ glo (grpG S) < ghi (grpG S) ∧ ghi (grpG S) ≤ 1016 ∧ ghi (grpG S) - glo (grpG S) ≤ (if zrq S (gq (grpG S)) 4 = 1 then 8 else 16) ∧ mb (gM (grpG S)) (gq (grpG S)) = true ∧ (∀ i, mb (gM (grpG S)) i = true → gq (grpG S) ≤ i ∧ i < zn S 6 ∧ zrq S i 5 = 0 ∧ zrq S i 1 = zrq S (gq (grpG S)) 1 ∧ zrq S i 4 = zrq S (gq (grpG S)) 4 ∧ glo (grpG S) ≤ zrq S i 2 ∧ zrq S i 2 + zrq S i 3 ≤ ghi (grpG S)) ∧ (zrq S (gq (grpG S)) 4 = 1 → ∀ r, glo (grpG S) ≤ r → r < ghi (grpG S) → ∃ i, mb (gM (grpG S)) i = true ∧ zrq S i 2 = r) ∧ zrq S (gq (grpG S)) 5 = 0 := by
  have h6 : zn S 6 ≤ 40 := h.1.2.2.2.2.2.2.1
  have hq5 := (fwN_is (zrq S) (zn S 6)).1 hq
  have hn : fwN (zrq S) (zn S 6) + (if zn S 5 = 1 then zn S 6 - (fwN (zrq S) (zn S 6) + 1) else 0) < zn S 6 := by split <;> omega
  have o := gat_ok h.2.2.1.1 hq5 _ hn
  have lt := gat_lt (R := zrq S) (q := fwN (zrq S) (zn S 6)) (if zn S 5 = 1 then zn S 6 - (fwN (zrq S) (zn S 6) + 1) else 0)
  obtain ⟨o1, o2, o3, o4, o5, o6⟩ := o
  refine ⟨Nat.lt_of_lt_of_le lt (pw40 (by omega)), o1, o2, o3, o4, fun i hi => ?_, o6, hq5⟩
  obtain ⟨a1, a2, a3, a4, a5, a6, a7⟩ := o5 i hi
  have a2' : i ≤ fwN (zrq S) (zn S 6) + (if zn S 5 = 1 then zn S 6 - (fwN (zrq S) (zn S 6) + 1) else 0) := a2
  exact ⟨a1, Nat.lt_of_le_of_lt a2' hn, a3, a4, a5, a6, a7⟩
theorem grp_wfF {S : St} (h : WF S) (hq : fwN (zrq S) (zn S 6) < zn S 6) : wfF (gfp S (grpG S)) := by
  obtain ⟨o1, o2, o3, o4, o5, o6, o7, o8⟩ := grp_ok h hq
  have hw := h.2.2.1.1
  obtain ⟨w0, w1, w2, w3, w4, w5, w6, w7, w8, _⟩ := hw _ hq
  obtain ⟨_, _, _, _, _, q6, _⟩ := o6 _ o5
  have q6' : glo (grpG S) ≤ zrq S (fwN (zrq S) (zn S 6)) 2 := q6
  refine ⟨w1, w2, ?_, ?_, fun e => ?_, ?_, fun k => ?_⟩
  · show 1 ≤ ghi (grpG S) - glo (grpG S); omega
  · show ghi (grpG S) - glo (grpG S) ≤ 16
    split at o4 <;> omega
  · show ghi (grpG S) - glo (grpG S) ≤ 8
    have e' : zrq S (gq (grpG S)) 4 = 1 := by
      have : (zrq S (gq (grpG S)) 4 == 1) = true := e
      simpa using this
    rw [if_pos e'] at o4
    exact o4
  · show glo (grpG S) ≤ 1000; omega
  · show wvk (zrq S) (gM (grpG S)) (gq (grpG S)) (glo (grpG S) + k) (zn S 6 - gq (grpG S)) < 65536
    refine wvk_lt hw _ ?_
    have : gq (grpG S) < zn S 6 := hq
    omega
section PLAN2
variable {X : Xt} {sd : Nat → Nat} {s : Nat} {G : Gt} {c N zl zq : Nat} {qs rs sp hd pool : List Nat} {S : St} {fu : Bool}
def pP (c a : Nat) : Prop := a = c + 19 ∨ a = c + 24 ∨ a = c + 25
theorem sp_plan {Pr : Gt → Prop} {Px : String → Gt → Prop} (h : CP X sd s G c N zl zq qs rs sp hd pool S fu) (hw : WF S) (hn : zn S 0 < 2 ^ 30)
    (k0 : ∀ G', zn S 6 ≤ fwN (zrq S) (zn S 6) → CP X sd s G' c N zl zq qs rs sp hd pool S fu → gJ G' 225 (c + 19) = lN 0 → FR G' (c + 24) (c + 25) [] → cg G G' (pP c) → Pr G')
    (k1 : ∀ G', fwN (zrq S) (zn S 6) < zn S 6 → isC S (fwN (zrq S) (zn S 6)) → CP X sd s G' c N zl zq qs rs sp hd pool S fu → gJ G' 225 (c + 19) = lN (2 ^ fwN (zrq S) (zn S 6)) → gI G' 226 (c + 19) = nI (fwN (zrq S) (zn S 6)) → FR G' (c + 24) (c + 25) [] → cg G G' (pP c) → Pr G')
    (k2 : ∀ G', fwN (zrq S) (zn S 6) < zn S 6 → ¬ isC S (fwN (zrq S) (zn S 6)) → CP X sd s G' c N zl zq qs rs sp hd pool S fu → QG G' (c + 19) (gM (grpG S)) (gq (grpG S)) (gdv S (grpG S)) (zrq S (gq (grpG S)) 4) (glo (grpG S)) (ghi (grpG S)) → FR G' (c + 24) (c + 25) (gfb S (grpG S)) → cg G G' (pP c) → Pr G') : wX1_plan X G c Pr Px := by
  have hkp : ∀ {G' : Gt}, cg G G' (pP c) → CP X sd s G' c N zl zq qs rs sp hd pool S fu := fun p => h.keep p.ch (fun a ha => Or.inl ha)
  obtain ⟨h1, h2, h3, h4, h5, h6, h7, h8⟩ := id h
  obtain ⟨t0, t1, ⟨r1, r2, r3, r4, r5, r6, r7⟩, ⟨t2, _⟩, _, _, _, _, ⟨f1, f2, f3⟩, u1, _⟩ := id h1
  refine ⟨t1, c + 24, r7, f1, ?_⟩
  rintro G1 rfl
  have c1 : cg G (sI G 129 (c + 24) 0) (pP c) := cg.sI (Or.inr (Or.inl rfl))
  have fr0 : FR (sI G 129 (c + 24) 0) (c + 24) (c + 25) [] := ⟨f1, f2, f3, by rw [gI_sI, if_pos ⟨rfl, rfl⟩]; rfl, by simp, fun j hj => by simp at hj, fun b hb => by simp at hb⟩
  have hu1 := (hkp c1).2.2.2.2.2.1
  refine ⟨t1, c + 19, r5, u1, sp_openGroup hu1 (fun G2 e1 c2 hu2 hj => ⟨fun _ => ?_, fun b e => by cases e⟩) (fun G2 i hi e1 e5 c2 hu2 hg2 => ⟨(fun e => by cases e), fun b hb => ?_⟩)⟩
  · rw [h7] at e1
    have c02 : cg G G2 (pP c) := c1.tr (c2.mono (fun a ha => Or.inl ha))
    exact k0 G2 (by omega) (hkp c02) hj (fr0.keep (c2.2.2.2.2.2 _ (by omega)) (c2.2.2.2.2.2 _ (by omega))) c02
  · injection hb with hb
    subst hb
    rw [h7] at e1 hi
    have c02 : cg G G2 (pP c) := c1.tr (c2.mono (fun a ha => Or.inl ha))
    have cp2 := hkp c02
    have fr2 : FR G2 (c + 24) (c + 25) [] := fr0.keep (c2.2.2.2.2.2 _ (by omega)) (c2.2.2.2.2.2 _ (by omega))
    obtain ⟨v0, v1, ⟨s1, s2, s3, s4, s5, s6, s7⟩, ⟨v2, _⟩, _, _, _, _, _, w1, _⟩ := id cp2.1
    have hs5 : gA G2 (c + 1) (4 : Int32).toNatClampNeg = nI (zn S 5) := cp2.2.2.1.2.2.2.1 4 (by decide)
    have hw5 : zn S 5 ≤ 1 := hw.1.2.2.2.2.2.1
    have hw1 : zn S 1 ≤ 10000 := hw.1.1
    subst e1
    have gok' := grp_ok hw hi
    obtain ⟨o1, o2, o3, o4, o5, o6, o7, o8⟩ := gok'
    obtain ⟨w0', w1', w2', w3', w4', w5', w6', w7', w8', _⟩ := hw.2.2.1.1 _ hi
    have fin : ∀ G3, cg G G3 (pP c) → FR G3 (c + 24) (c + 25) [] → ¬ isC S (fwN (zrq S) (zn S 6)) → QG G3 (c + 19) (gM (grpG S)) (gq (grpG S)) (gdv S (grpG S)) (zrq S (gq (grpG S)) 4) (glo (grpG S)) (ghi (grpG S)) → wX1_plan_46 X Pr Px G3 c := by
      intro G3 c3 fr3 hnc hg3
      have cp3 := hkp c3
      refine sp_plan46 cp3.1 cp3.2.1 cp3.2.2.2.2.2.1 hg3 o1 (by rw [h7]; exact hi) (by show zrq S (fwN (zrq S) (zn S 6)) 1 < 256; omega) w6' (fun e i hm _ => by rw [(o6 i hm).2.2.2.2.1]; exact e) o2 o3 o4 fr3 (fun G4 h4 c4 => ?_)
      have c04 : cg G G4 (pP c) := c3.tr (c4.mono (fun a ha => Or.inr ha))
      refine k2 G4 hi hnc (hkp c04) (hg3.pF c4) ?_ c04
      rw [h7] at h4
      exact h4
    refine ⟨v1, sp_cacheAnswers cp2 (by rw [h7]; exact hi) hn (by omega) (fun hc => ⟨fun z => absurd z (by decide), fun _ => k1 G2 hi hc cp2 hg2.1 hg2.2.1 fr2 c02⟩) (fun hc => ⟨fun _ => ⟨v1, c + 1, s1, by rw [v2], by rw [v2]; exact n_in (i := 4) (by decide) (by decide), ?_⟩, fun z => absurd rfl z⟩)⟩
    rw [hs5]
    have eg : grpG S = (fwN (zrq S) (zn S 6), gat (zrq S) (fwN (zrq S) (zn S 6)) (if zn S 5 = 1 then zn S 6 - (fwN (zrq S) (zn S 6) + 1) else 0)) := rfl
    refine ⟨fun z => ?_, fun z => ⟨v1, c + 19, s5, w1, sp_gather hu2 (by rw [h7]; exact hi) e5 hg2 (fun G3 c3 hu3 hg3 => ?_)⟩⟩
    · have e0 : zn S 5 ≠ 1 := fun e => z (by rw [e]; rfl)
      refine fin G2 c02 fr2 hc ?_
      rw [eg, if_neg e0]
      exact hg2
    · have e0 : zn S 5 = 1 := n_inj (b := 1) (by omega) (by decide) z
      refine fin G3 (c02.tr (c3.mono (fun a ha => Or.inl ha))) (fr2.keep (c3.2.2.2.2.2 _ (by omega)) (c3.2.2.2.2.2 _ (by omega))) hc ?_
      rw [h7] at hg3
      rw [eg, if_pos e0]
      exact hg3
end PLAN2
