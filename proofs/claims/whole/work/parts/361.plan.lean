/-! ===== Core: plan ===== -/
section PLAN
variable {X : Xt} {sd : Nat → Nat} {s : Nat} {G : Gt} {c N zl zq : Nat} {qs rs sp hd pool : List Nat} {S : St} {fu : Bool} {R : Nat → Nat → Nat} {W : Nat → Int32} {V : Nat → Nat → Nat} {M q dv iw lo hi : Nat} {l : List Nat}
/-- only the planned frame changes -/
def pF (c a : Nat) : Prop := a = c + 24 ∨ a = c + 25
theorem QU.pF {G' : Gt} (h : QU X sd (s + 1) G (c + 19) zq qs R W V fu) (hs : KS sd s c) (q : cg G G' (pF c)) : QU X sd (s + 1) G' (c + 19) zq qs R W V fu := h.keep q.ch (fun a ha _ z => by
  rcases z with e | e
  · rw [e, hs.r (by omega) (by omega) (by omega)] at ha; omega
  · rw [e, hs.r (by omega) (by omega) (by omega)] at ha; omega)
theorem QG.pF {G' : Gt} (h : QG G (c + 19) M q dv iw lo hi) (p : cg G G' (pF c)) : QG G' (c + 19) M q dv iw lo hi := h.keep (p.2.2.2.2.2 _ (fun z => by rcases z with e | e <;> omega))
theorem sp_bwf79 {w : Nat} {Pr : Gt → Prop} {Px : String → Gt → Prop} (hk : KT G c) (hs : KS sd s c) (hu : QU X sd (s + 1) G (c + 19) zq qs R W V fu) (hg : QG G (c + 19) M q dv iw lo (lo + w)) (hM : M < 2 ^ 40) (hq : q < qs.length) (hmw : ∀ i, mb M i = true → i < qs.length → R i 4 = 1) (hl : l.length + 2 * w + 2 ≤ 37) (hlo : lo ≤ 1016) (hf : FR G (c + 24) (c + 25) l)
    (k : ∀ G', FR G' (c + 24) (c + 25) (l ++ wrds (fun k => wvk R M q (lo + k) (qs.length - q)) w) → cg G G' (pF c) → Pr G') :
    ∃ (I : Gt → Nat → Int32 → Prop) (μ : Gt → Nat → Int32 → Nat), I G c (nI lo) ∧ ∀ (G : Gt) (a0 : Nat) (x2 : Int32), I G a0 x2 → wX1_buildWriteFrame_79 X Pr Px (fun G' a0' x2' => I G' a0' x2' ∧ μ G' a0' x2' < μ G a0 x2) G a0 x2 := by
  have hwf : ∀ i, i < qs.length → wfR (R i) := fun i hi => (hu.e hi).2.2.2.2.1
  refine ⟨fun g a0 x2 => a0 = c ∧ cg G g (pF c) ∧ ∃ i, x2 = nI (lo + i) ∧ i ≤ w ∧ FR g (c + 24) (c + 25) (l ++ wrds (fun k => wvk R M q (lo + k) (qs.length - q)) i), fun _ _ x2 => lo + w - x2.toNatClampNeg, ⟨rfl, cg.rf, 0, rfl, by omega, by simpa [wrds] using hf⟩, ?_⟩
  rintro g a0 x2 ⟨rfl, cgg, i, rfl, hi, hfr⟩
  have hk' := hk.ch cgg.ch
  have hu' := hu.pF hs cgg
  have hg' := hg.pF cgg
  obtain ⟨k0, k1, ⟨r1, r2, r3, r4, r5, r6, r7⟩, _, _, _, _, _, ⟨f1, _⟩, u1, _⟩ := hk'
  unfold wX1_buildWriteFrame_79
  refine ⟨k1, a0 + 19, r5, u1, ?_⟩
  rw [hg'.2.2.2.2.2]
  refine ⟨fun z => ?_, fun z => ?_⟩
  · have z' : lo + w ≤ lo + i := (n_le (by omega) (by omega)).mp z
    have e : i = w := by omega
    subst e
    exact k g hfr cgg
  · have z' : ¬ lo + w ≤ lo + i := fun e => z ((n_le (by omega) (by omega)).mpr e)
    refine ⟨k1, a0 + 24, r7, k1, a0 + 19, r5, u1, sp_valueToWrite hu' hg' hM (by omega) (by omega) hmw ⟨f1, sp_putWord hfr (by rw [List.length_append, wrds_len]; omega) (wvk_lt hwf _ (by omega)) (fun G2 h2 c2 => ⟨⟨rfl, cgg.tr c2, i + 1, by rw [nI_1]; rfl, by omega, ?_⟩, dec_up (by omega) (by omega)⟩)⟩⟩
    rw [List.append_assoc] at h2
    exact h2
/-- the frame of the group -/
theorem sp_plan46 {Pr : Gt → Prop} {Px : String → Gt → Prop} (hk : KT G c) (hs : KS sd s c) (hu : QU X sd (s + 1) G (c + 19) zq qs R W V fu) (hg : QG G (c + 19) M q dv iw lo hi) (hM : M < 2 ^ 40) (hq : q < qs.length) (hd : dv < 256) (hiw : iw ≤ 1) (hmw : iw = 1 → ∀ i, mb M i = true → i < qs.length → R i 4 = 1) (hl : lo < hi) (hh : hi ≤ 1016) (hw : hi - lo ≤ if iw = 1 then 8 else 16) (hf : FR G (c + 24) (c + 25) l)
    (k : ∀ G', FR G' (c + 24) (c + 25) (fby dv lo (hi - lo) (iw == 1) (fun k => wvk R M q (lo + k) (qs.length - q))) → cg G G' (pF c) → Pr G') : wX1_plan_46 X Pr Px G c := by
  have hwf : ∀ i, i < qs.length → wfR (R i) := fun i hi => (hu.e hi).2.2.2.2.1
  have go : ∀ {g : Gt}, cg G g (pF c) → gT g c = (1, 2) ∧ gR g 68 c = some (c + 19) ∧ gR g 70 c = some (c + 24) ∧ gT g (c + 19) = (1, 7) ∧ gT g (c + 24) = (1, 4) := fun p => by
    obtain ⟨k0, k1, ⟨r1, r2, r3, r4, r5, r6, r7⟩, _, _, _, _, _, ⟨f1, _⟩, u1, _⟩ := hk.ch p.ch
    exact ⟨k1, r5, r7, u1, f1⟩
  have cd : ∀ {g g' : Gt}, cg g g' (fun a => a = c + 24 ∨ a = c + 25) → cg g g' (pF c) := fun p => p
  obtain ⟨k1, r5, r7, u1, f1⟩ := go cg.rf
  unfold wX1_plan_46
  refine ⟨k1, c + 19, r5, u1, ?_⟩
  rw [hg.2.2.2.1]
  refine ⟨fun z => ⟨k1, c + 24, r7, k1, c + 19, r5, u1, f1, ?_⟩, fun z => ⟨k1, k1, c + 19, r5, u1, sp_width u1 hg (by omega) ⟨k1, c + 24, r7, k1, c + 19, r5, u1, ?_⟩⟩⟩
  · have e : iw = 0 := n_inj (b := 0) (by omega) (by decide) z
    subst e
    rw [if_neg (by decide)] at hw
    rw [hg.2.2.1]
    refine sp_open (n := 3) hf hd (by decide) (fun G1 h1 c1 => ?_)
    obtain ⟨k1, r5, r7, u1, f1⟩ := go (cd c1)
    refine ⟨k1, c + 24, r7, k1, c + 19, r5, u1, f1, ?_⟩
    rw [(hg.pF (cd c1)).2.2.2.2.1]
    refine sp_putWord h1 (by simp) (by omega) (fun G2 h2 c2 => ?_)
    have c02 := c1.tr c2
    obtain ⟨k1, r5, r7, u1, f1⟩ := go (cd c02)
    refine ⟨k1, c + 24, r7, k1, c + 19, r5, u1, sp_width u1 (hg.pF (cd c02)) (by omega) ⟨f1, sp_putWord h2 (by simp) (by omega) (fun G3 h3 c3 => ?_)⟩⟩
    have c03 := c02.tr c3
    obtain ⟨k1, r5, r7, u1, f1⟩ := go (cd c03)
    exact ⟨k1, c + 24, r7, f1, sp_seal h3 (by simp) (fun G4 h4 c4 => k G4 h4 (cd (c03.tr c4)))⟩
  · have e : iw = 1 := by
      rcases (show iw = 0 ∨ iw = 1 by omega) with e | e
      · exact absurd (by rw [e]; rfl) z
      · exact e
    subst e
    rw [if_pos rfl] at hw
    have hmw := hmw rfl
    obtain ⟨w, hwe⟩ : ∃ w, hi = lo + w := ⟨hi - lo, by omega⟩
    subst hwe
    rw [show lo + w - lo = w by omega] at hw k ⊢
    have b31 : ∀ (f : Nat) (hf6 : f < 256) (pre : List Nat), (w = 1 → pre = []) → (w ≠ 1 → pre = [w / 256, w % 256, 2 * w]) → ([dv, f, lo / 256, lo % 256] ++ (pre ++ wrds (fun k => wvk R M q (lo + k) (qs.length - q)) w)) = fbody dv lo w (1 == 1) (fun k => wvk R M q (lo + k) (qs.length - q)) → wX1_buildWriteFrame_31 X (fun G42 => gT G42 c = (1, 2) ∧ ∃ b43, gR G42 70 c = some b43 ∧ gT G42 b43 = (1, 4) ∧ wX3_seal X G42 b43 (fun G44 => Pr G44)) Px G c (nI w) (c + 24) (nI dv) (nI f) := by
      intro f hf6 pre hp1 hp2 hfb
      unfold wX1_buildWriteFrame_31
      refine ⟨f1, sp_open hf hd hf6 (fun G1 h1 c1 => ?_)⟩
      obtain ⟨k1, r5, r7, u1, f1⟩ := go (cd c1)
      refine ⟨k1, c + 24, r7, k1, c + 19, r5, u1, f1, ?_⟩
      rw [(hg.pF (cd c1)).2.2.2.2.1]
      refine sp_putWord h1 (by simp) (by omega) (fun G2 h2 c2 => ?_)
      have c02 := c1.tr c2
      obtain ⟨k1, r5, r7, u1, f1⟩ := go (cd c02)
      have fin : ∀ G', FR G' (c + 24) (c + 25) (fbody dv lo w (1 == 1) (fun k => wvk R M q (lo + k) (qs.length - q))) → cg G G' (pF c) → gT G' c = (1, 2) ∧ ∃ b43, gR G' 70 c = some b43 ∧ gT G' b43 = (1, 4) ∧ wX3_seal X G' b43 (fun G44 => Pr G44) := fun G' h' c' => by
        obtain ⟨k1, r5, r7, u1, f1⟩ := go c'
        refine ⟨k1, c + 24, r7, f1, sp_seal h' ?_ (fun G4 h4 c4 => k G4 h4 (c'.tr c4))⟩
        rw [← hfb]
        by_cases e : w = 1
        · rw [hp1 e]; simp [wrds_len]; omega
        · rw [hp2 e]; simp [wrds_len]; omega
      refine ⟨fun z => ⟨k1, c + 19, r5, u1, ?_⟩, fun z => ⟨k1, c + 24, r7, f1, sp_putWord h2 (by simp) (by omega) (fun G3 h3 c3 => ?_)⟩⟩
      · have e1 : w = 1 := by have := (n_le (b := 1) (by omega) (by decide)).mp z; omega
        rw [(hg.pF (cd c02)).2.2.2.2.1]
        refine sp_bwf79 (hk.ch c02.ch) hs (hu.pF hs (cd c02)) (hg.pF (cd c02)) hM hq hmw (by simp; omega) (by omega) h2 (fun G4 h4 c4 => fin G4 ?_ ((cd c02).tr c4))
        rw [hp1 e1] at hfb
        rw [← hfb]
        simpa using h4
      · have e1 : w ≠ 1 := fun e => z (by rw [e]; decide)
        have c03 := c02.tr c3
        obtain ⟨k1, r5, r7, u1, f1⟩ := go (cd c03)
        rw [show (2 : Int32) * nI w = nI (2 * w) from pk_mul 2 w]
        refine ⟨k1, c + 24, r7, f1, sp_putB h3 (by simp) (by omega) (fun G4 h4 c4 => ?_)⟩
        have c04 := c03.tr c4
        obtain ⟨k1, r5, r7, u1, f1⟩ := go (cd c04)
        refine ⟨k1, c + 19, r5, u1, ?_⟩
        rw [(hg.pF (cd c04)).2.2.2.2.1]
        rw [Nat.mod_eq_of_lt (show 2 * w < 256 by omega)] at h4
        refine sp_bwf79 (hk.ch c04.ch) hs (hu.pF hs (cd c04)) (hg.pF (cd c04)) hM hq hmw (by simp; omega) (by omega) h4 (fun G5 h5 c5 => fin G5 ?_ ((cd c04).tr c5))
        rw [hp2 e1] at hfb
        rw [← hfb]
        simpa using h5
    rw [hg.2.2.1]
    refine ⟨fun z2 => ?_, fun z2 => ?_⟩
    · have e1 : w ≠ 1 := fun e => z2 (by rw [e]; rfl)
      refine b31 16 (by decide) [w / 256, w % 256, 2 * w] (fun e => absurd e e1) (fun _ => rfl) ?_
      unfold fbody
      rw [if_pos (by decide), if_neg e1]
      simp
    · have e1 : w = 1 := n_inj (b := 1) (by omega) (by decide) z2
      refine b31 6 (by decide) [] (fun _ => rfl) (fun e => absurd e1 e) ?_
      unfold fbody
      rw [if_pos (by decide), if_pos e1, e1]
      simp [wrds]
end PLAN
