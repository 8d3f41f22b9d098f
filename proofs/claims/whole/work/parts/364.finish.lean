/-! ===== Core: a group that is done; a request out of the cache ===== -/
theorem RQ.x {G : Gt} {q : Nat} {R R' : Nat → Nat} {wh : Int32} (h : RQ G q R wh) (e : R' 0 = R 0 ∧ R' 1 = R 1 ∧ R' 2 = R 2 ∧ R' 3 = R 3 ∧ R' 4 = R 4 ∧ R' 5 = R 5 ∧ R' 6 = R 6 ∧ R' 9 = R 9) : RQ G q R' wh := by
  obtain ⟨e0, e1, e2, e3, e4, e5, e6, e9⟩ := e
  unfold RQ
  rw [e0, e1, e2, e3, e4, e5, e6, e9]
  exact h
section FINISH
variable {X : Xt} {sd : Nat → Nat} {s : Nat} {G : Gt} {c zq : Nat} {qs : List Nat} {fu : Bool} {R : Nat → Nat → Nat} {W : Nat → Int32} {V : Nat → Nat → Nat} {M q dv iw lo hi : Nat} {f bb : Nat} {b : List Nat}
theorem sp_takeValues {y off : Nat} {Q : Nat → Nat} {wh : Int32} {Pr : Gt → Prop} (hr : RQ G y Q wh) (hw : wfR Q) (hf : FR G f bb b) (n1 : f ≠ y + 1) (n2 : bb ≠ y + 1) (hoff : off + Q 3 ≤ 900) (k : ∀ G', (∀ j, j < Q 3 → gA G' (y + 1) j = nI (wd b (3 + 2 * (off + j)))) → cg G G' (fun a => a = y + 1) → Pr G') : wX8_takeValues X G y f (nI off) Pr := by
  obtain ⟨a1, a2, a3, b0, b1, b2, b3, b4, b5, b6, b7, b8, b9⟩ := id hr
  obtain ⟨w0, w1, w2, w3, w4, w5, _⟩ := hw
  refine ⟨fun g a0 a1 x2 x3 => a0 = y ∧ a1 = f ∧ x2 = nI off ∧ cg G g (fun a => a = y + 1) ∧ ∃ i, x3 = nI i ∧ i ≤ Q 3 ∧ ∀ j, j < i → gA g (y + 1) j = nI (wd b (3 + 2 * (off + j))), fun _ _ _ _ x3 => Q 3 - x3.toNatClampNeg, ⟨rfl, rfl, rfl, cg.rf, 0, rfl, by omega, fun j hj => absurd hj (by omega)⟩, ?_⟩
  rintro g a0 a1' x2 x3 ⟨rfl, rfl, rfl, p, i, rfl, hi, hj⟩
  have e0 := p.2.2.2.2.2 a0 (by omega)
  have hf' := hf.keep (p.2.2.2.2.2 _ n1) (p.2.2.2.2.2 _ n2)
  have k1 : gT g a0 = (1, 9) := e0.1.trans a1
  have k3 : gT g (a0 + 1) = (2, Q 3) := (p.2.2.1 _).trans a3
  unfold wX8_takeValues_2
  rw [e0.2.1, b3]
  refine ⟨k1, fun z => ?_, fun z => ⟨k1, a0 + 1, (e0.2.2.2.1 _).trans a2, hf'.1, ?_⟩⟩
  · have z' : Q 3 ≤ i := (n_le (by omega) (by omega)).mp z
    exact k g (fun j hj2 => hj j (by omega)) p
  · have z' : i < Q 3 := Nat.lt_of_not_le (fun e => z ((n_le (by omega) (by omega)).mpr e))
    rw [n_add]
    refine sp_readValue hf' (by omega) ⟨by rw [k3], by rw [k3]; exact n_in (show i < Q 3 from z') (by show Q 3 < _; omega), ?_⟩
    rw [n_cl (by omega)]
    rintro G2 rfl
    refine ⟨⟨rfl, rfl, rfl, p.tr (cg.sA rfl), i + 1, nI_1 i, by omega, fun j hj2 => ?_⟩, dec_up z' (by omega)⟩
    rw [gA_sA]
    by_cases e : j = i
    · subst e; rw [pk_us]
    · rw [pk_un e]; exact hj j (by omega)
theorem sp_finishGroup {t : Nat} {cf cv ct : Nat → Nat} {Pr : Gt → Prop} {Px : String → Gt → Prop} (hk : KT G c) (hs : KS sd s c) (hn : gI G 71 c = nI t) (hu : QU X sd (s + 1) G (c + 19) zq qs R W V fu) (hg : QG G (c + 19) M q dv iw lo hi) (hM : M < 2 ^ 40) (hq : q < qs.length) (hmq : ∀ i, mb M i = true → q ≤ i ∧ R i 5 = 0 ∧ R i 4 = iw ∧ lo ≤ R i 2 ∧ R i 2 + R i 3 ≤ hi) (hc : CC G (c + 16) cf cv ct t) (hd : 1 ≤ dv ∧ dv ≤ 3) (hl : lo ≤ hi) (hh : hi ≤ 1016) (hw : hi - lo ≤ 16) (hiw : iw ≤ 1) (hf : FR G f bb b) (hfs : sd f = s ∧ sd bb = s)
    (k : ∀ G', QU X sd (s + 1) G' (c + 19) zq qs (rqs R M 1 0 qs.length) (Ws W M (nI t) qs.length) (Vs V R M qs.length (fun i k => if iw = 1 then 0 else wd b (3 + 2 * (R i 2 - lo + k)))) fu → CC G' (c + 16) (cfw cf dv lo (hi - lo) (fun _ => 1)) (cfw cv dv lo (hi - lo) (fun k => if iw = 1 then wvk R M q (lo + k) (qs.length - q) else wd b (3 + 2 * k))) (cfw ct dv lo (hi - lo) (fun _ => t)) t → cg G G' (pS sd s c) → Pr G') : wX1_finishGroup X G c f Pr Px := by
  have hlen := hu.t.2.2.2.2.2.2.2
  have hwf : ∀ i, i < qs.length → wfR (R i) := fun i hi => (hu.e hi).2.2.2.2.1
  have npS : ∀ a, sd a = s → ¬ pS sd s c a := fun a ha z => by
    rcases z with z | z | z
    · omega
    · rw [z, hs.r (by omega) (by omega) (by omega)] at ha; omega
    · rw [z, hs.r (by omega) (by omega) (by omega)] at ha; omega
  have go : ∀ {g : Gt}, cg G g (pS sd s c) → gT g c = (1, 2) ∧ gR g 68 c = some (c + 19) ∧ gR g 67 c = some (c + 16) ∧ gT g (c + 19) = (1, 7) ∧ CT g (c + 16) ∧ gI g 71 c = nI t ∧ FR g f bb b := fun p => by
    obtain ⟨k0, k1, ⟨r1, r2, r3, r4, r5, r6, r7⟩, _, _, _, _, hct, _, u1, _⟩ := hk.ch p.ch
    refine ⟨k1, r5, r4, u1, hct, ?_, hf.keep (p.2.2.2.2.2 _ (npS _ hfs.1)) (p.2.2.2.2.2 _ (npS _ hfs.2))⟩
    have e := p.2.2.2.2.2 c (fun z => by
      rcases z with z | z | z
      · rw [hs.r (by omega) (by omega) (by omega)] at z; omega
      · omega
      · omega)
    rw [e.2.1]; exact hn
  have ccS : ∀ {g g' : Gt}, cg g g' (fun a => a = c + 16 + 1 ∨ a = c + 16 + 2) → cg g g' (pS sd s c) := fun p => p.mono (fun a ha => Or.inr ha)
  obtain ⟨k1, r5, r4, u1, _, _, _⟩ := go cg.rf
  unfold wX1_finishGroup
  refine ⟨k1, c + 19, r5, u1, ?_⟩
  rw [hg.2.2.2.2.1]
  refine ⟨fun g a0 a1 x2 => a0 = c ∧ a1 = f ∧ cg G g (fun a => a = c + 16 + 1 ∨ a = c + 16 + 2) ∧ ∃ j, x2 = nI (lo + j) ∧ lo + j ≤ hi ∧ CC g (c + 16) (cfw cf dv lo j (fun _ => 1)) (cfw cv dv lo j (fun k => if iw = 1 then wvk R M q (lo + k) (qs.length - q) else wd b (3 + 2 * k))) (cfw ct dv lo j (fun _ => t)) t, fun _ _ _ x2 => hi - x2.toNatClampNeg, ⟨rfl, rfl, cg.rf, 0, rfl, by omega, by rw [cfw_0, cfw_0, cfw_0]; exact hc⟩, ?_⟩
  rintro g a0 a1 x2 ⟨rfl, rfl, p, j, rfl, hj, hcc⟩
  obtain ⟨k1, r5, r4, u1, hct, hnn, hff⟩ := go (ccS p)
  have hgg := hg.pS (ccS p)
  have hug : QU X sd (s + 1) g (a0 + 19) zq qs R W V fu := hu.keep p.ch (fun a ha _ z => by
    rcases z with e | e
    · rw [e, hs.r (by omega) (by omega) (by omega)] at ha; omega
    · rw [e, hs.r (by omega) (by omega) (by omega)] at ha; omega)
  unfold wX1_finishGroup_8
  refine ⟨k1, a0 + 19, r5, u1, ?_⟩
  rw [hgg.2.2.2.2.2]
  refine ⟨fun z => ⟨k1, a0 + 19, r5, u1, ?_⟩, fun z => ⟨k1, a0 + 19, r5, u1, ?_⟩⟩
  · -- the requests
    have z' : hi ≤ lo + j := (n_le (by omega) (by omega)).mp z
    have ej : j = hi - lo := by omega
    subst ej
    rw [hgg.2.1]
    refine ⟨fun g' a0' a1' x2 => a0' = a0 ∧ a1' = a1 ∧ cg g g' (fun a => sd a = s + 1 ∧ a ≠ a0 + 19) ∧ ∃ i, x2 = nI i ∧ q ≤ i ∧ i ≤ qs.length ∧ QU X sd (s + 1) g' (a0 + 19) zq qs (rqs R M 1 0 i) (Ws W M (nI t) i) (Vs V R M i (fun i k => if iw = 1 then 0 else wd b (3 + 2 * (R i 2 - lo + k)))) fu, fun _ _ _ x2 => qs.length - x2.toNatClampNeg, ⟨rfl, rfl, cg.rf, q, rfl, Nat.le_refl _, by omega, hug.ext (fun j _ => ?_) (fun j _ => ?_) (fun j _ => ?_)⟩, ?_⟩
    · funext z; unfold rqs; rw [if_neg (fun e => by have := (hmq j e.1).1; omega)]
    · unfold Ws; rw [if_neg (fun e => by have := (hmq j e.1).1; omega)]
    · funext z; unfold Vs; rw [if_neg (fun e => by have := (hmq j e.1.1).1; omega)]
    rintro g' a0' a1' x2 ⟨rfl, rfl, p2, i, rfl, hqi, hil, hui⟩
    have cgt : cg G g' (pS sd s a0') := (ccS p).tr (p2.mono (fun a ha => Or.inl ha))
    obtain ⟨k1, r5, r4, u1, hct, hnn, hff⟩ := go cgt
    obtain ⟨t1, t2, t3, t4, t5, _, t7, t8⟩ := hui.t
    have hgg := hg.pS cgt
    refine ⟨k1, a0' + 19, r5, u1, a0' + 19 + 1, t2, t7, q_size hui ⟨fun z2 => ?_, fun z2 => ?_⟩⟩
    · have z3 : qs.length ≤ i := (n_le (by omega) (by omega)).mp z2
      have e : i = qs.length := by omega
      subst e
      refine k g' hui (hcc.keep (p2.2.2.2.2.2 _ (fun z4 => ?_)) (p2.2.2.2.2.2 _ (fun z4 => ?_))) cgt
      · have z5 : sd (a0' + 16 + 1) = s + 1 := z4.1
        rw [hs.r (by omega) (by omega) (by omega)] at z5; omega
      · have z5 : sd (a0' + 16 + 2) = s + 1 := z4.1
        rw [hs.r (by omega) (by omega) (by omega)] at z5; omega
    · have z3 : i < qs.length := Nat.lt_of_not_le (fun e => z2 ((n_le (by omega) (by omega)).mpr e))
      have dec := dec_up (L := qs.length) z3 (by omega)
      have eR : rqs R M 1 0 i i = R i := by funext y; unfold rqs; rw [if_neg (fun z => by omega)]
      have qe := hui.e z3
      rw [eR] at qe
      obtain ⟨_, qc1, qc2, ⟨a1, a2, a3, b0, b1, b2, b3, b4, b5, b6, b7, b8, b9⟩, hwi, _⟩ := id qe
      have nn := q_ne hui z3
      -- what the settled request makes of the queue
      have toS : ∀ {g2 : Gt}, mb M i = true → QU X sd (s + 1) g2 (a0' + 19) zq qs (va_up (rqs R M 1 0 i) i (fun j => if j = 5 then 1 else if j = 6 then 0 else rqs R M 1 0 i i j)) (va_up (Ws W M (nI t) i) i (nI t)) (va_up (Vs V R M i (fun i k => if iw = 1 then 0 else wd b (3 + 2 * (R i 2 - lo + k)))) i (fun j => if j < R i 3 then (if iw = 1 then 0 else wd b (3 + 2 * (R i 2 - lo + j))) else V i j)) fu → QU X sd (s + 1) g2 (a0' + 19) zq qs (rqs R M 1 0 (i + 1)) (Ws W M (nI t) (i + 1)) (Vs V R M (i + 1) (fun i k => if iw = 1 then 0 else wd b (3 + 2 * (R i 2 - lo + k)))) fu := by
        intro g2 hm hq2
        refine hq2.ext (fun j _ => ?_) (fun j _ => ?_) (fun j _ => ?_)
        · rw [rqs_s]
          by_cases e : j = i
          · subst e
            rw [va_up_self, if_pos ⟨rfl, hm⟩, eR]
          · rw [va_up_ne _ _ e, if_neg (fun z => e z.1)]
        · rw [Ws_s]
          by_cases e : j = i
          · subst e; rw [va_up_self, if_pos ⟨rfl, hm⟩]
          · rw [va_up_ne _ _ e, if_neg (fun z => e z.1)]
        · rw [Vs_s]
          by_cases e : j = i
          · subst e; rw [va_up_self, if_pos ⟨rfl, hm⟩]
          · rw [va_up_ne _ _ e, if_neg (fun z => e z.1)]
      refine ⟨k1, a0' + 19, r5, u1, sp_isMember t1 hgg.1 hM (by omega) (fun hm => ⟨fun z2 => absurd z2 (by decide), fun _ => ⟨k1, a0' + 19, r5, u1, a0' + 19 + 1, t2, t7, q_get hui z3 ⟨_, rfl, a1, a1, fun z4 => ⟨k1, a1, ?_⟩, fun z4 => ⟨a1, k1, a0' + 19, r5, u1, a1, ?_⟩⟩⟩⟩) (fun hm => ⟨fun _ => ⟨⟨rfl, rfl, p2, i + 1, nI_1 i, by omega, by omega, hui.ext (fun j _ => ?_) (fun j _ => ?_) (fun j _ => ?_)⟩, dec⟩, fun z2 => absurd rfl z2⟩)⟩
      · -- a write
        rw [hnn]
        have e4 : R i 4 ≠ 0 := fun e => z4 (by rw [b5, e]; rfl)
        refine q_settle (st := 1) (cd := 0) hui z3 (by decide) (by decide) (fun _ e => absurd (by rw [eR] at e; exact e) e4) (fun G2 hu2 c2 => ⟨⟨rfl, rfl, p2.tr (c2.mono (fun a ha => by rw [ha]; exact ⟨qc1, nn.1⟩)), i + 1, nI_1 i, by omega, by omega, toS hm hu2⟩, dec⟩)
      · -- a read
        obtain ⟨m1, m2, m3, m4, m5⟩ := hmq i hm
        rw [b5] at z4
        have e4 : R i 4 = 0 := n_inj (b := 0) (by have := hwi.2.2.2.2.2.2.1; omega) (by decide) z4
        have eiw : iw = 0 := by omega
        rw [b2, hgg.2.2.2.2.1, n_sub m4]
        refine sp_takeValues qe.2.2.2.1 hwi hff (fun e => ?_) (fun e => ?_) (by omega) (fun G2 hv2 c2 => ?_)
        · rw [← e, hfs.1] at qc2; omega
        · rw [← e, hfs.2] at qc2; omega
        · have c2' : cg g' G2 (fun a => sd a = s + 1 ∧ a ≠ a0' + 19) := c2.mono (fun a ha => by rw [ha]; exact ⟨qc2, nn.2⟩)
          have cgt2 : cg G G2 (pS sd s a0') := cgt.tr (c2'.mono (fun a ha => Or.inl ha))
          obtain ⟨k1, r5, r4, u1, hct, hnn, hff⟩ := go cgt2
          have eq0 := c2.2.2.2.2.2 (qs.getD i 0) (by omega)
          have hq2 : RQ G2 (qs.getD i 0) (R i) (Ws W M (nI t) i i) := by
            obtain ⟨_, _, _, hrq, _⟩ := id qe
            refine ⟨eq0.1.trans a1, (eq0.2.2.2.1 _).trans a2, (c2.2.2.1 _).trans a3, (eq0.2.1 _).trans b0, (eq0.2.1 _).trans b1, (eq0.2.1 _).trans b2, (eq0.2.1 _).trans b3, (eq0.2.1 _).trans b4, (eq0.2.1 _).trans b5, (eq0.2.1 _).trans b6, (eq0.2.1 _).trans b7, (eq0.2.1 _).trans b8, fun e => absurd e (by omega)⟩
          have hu2 := hui.upd (V' := Vs V R M i (fun i k => if iw = 1 then 0 else wd b (3 + 2 * (R i 2 - lo + k))) i) z3 (c2.mono (fun a ha => Or.inr ha)) hq2 hwi (fun fu1 => ⟨(eq0.2.1 _).trans (qe.2.2.2.2.2 fu1).1, fun _ e5 => absurd e5 (by omega)⟩)
          have hu2' : QU X sd (s + 1) G2 (a0' + 19) zq qs (rqs R M 1 0 i) (Ws W M (nI t) i) (Vs V R M i (fun i k => if iw = 1 then 0 else wd b (3 + 2 * (R i 2 - lo + k)))) fu := hu2.ext (fun j _ => by
            by_cases e : j = i
            · subst e; rw [va_up_self, eR]
            · rw [va_up_ne _ _ e]) (fun j _ => by
            by_cases e : j = i
            · subst e; rw [va_up_self]
            · rw [va_up_ne _ _ e]) (fun j _ => by
            by_cases e : j = i
            · subst e; rw [va_up_self]
            · rw [va_up_ne _ _ e])
          rw [hnn]
          refine ⟨k1, eq0.1.trans a1, q_settle (st := 1) (cd := 0) hu2' z3 (by decide) (by decide) (fun _ _ _ kk hkk => ?_) (fun G3 hu3 c3 => ⟨⟨rfl, rfl, (p2.tr c2').tr (c3.mono (fun a ha => by rw [ha]; exact ⟨qc1, nn.1⟩)), i + 1, nI_1 i, by omega, by omega, toS hm hu3⟩, dec⟩)⟩
          rw [eR] at hkk
          rw [hv2 kk hkk, if_pos hkk, if_neg (by omega)]
      · rw [rqs_s, if_neg (fun z => by rw [hm] at z; cases z.2)]
      · rw [Ws_s, if_neg (fun z => by rw [hm] at z; cases z.2)]
      · rw [Vs_s, if_neg (fun z => by rw [hm] at z; cases z.2)]
  · -- the registers
    have z' : lo + j < hi := Nat.lt_of_not_le (fun e => z ((n_le (by omega) (by omega)).mpr e))
    have f53 : ∀ (v : Nat), v < 65536 → v = (if iw = 1 then wvk R M q (lo + j) (qs.length - q) else wd b (3 + 2 * j)) → wX1_finishGroup_53 X Pr Px (fun G' a0' a1' x2' => (a0' = a0 ∧ a1' = a1 ∧ cg G G' (fun a => a = a0 + 16 + 1 ∨ a = a0 + 16 + 2) ∧ ∃ j, x2' = nI (lo + j) ∧ lo + j ≤ hi ∧ CC G' (a0 + 16) (cfw cf dv lo j (fun _ => 1)) (cfw cv dv lo j (fun k => if iw = 1 then wvk R M q (lo + k) (qs.length - q) else wd b (3 + 2 * k))) (cfw ct dv lo j (fun _ => t)) t) ∧ hi - x2'.toNatClampNeg < hi - (nI (lo + j)).toNatClampNeg) g a0 a1 (nI (lo + j)) (nI v) := by
      intro v hv ev
      refine ⟨k1, a0 + 16, r4, k1, a0 + 19, r5, u1, k1, hct.1, ?_⟩
      rw [hgg.2.2.1, hnn]
      refine sp_put hct hcc hd (by omega) hv (fun G3 h32 hc3 cg3 => ⟨⟨rfl, rfl, p.tr cg3, j + 1, nI_1 _, by omega, ?_⟩, dec_up z' (by omega)⟩) (fun h32 => ⟨⟨rfl, rfl, p, j + 1, nI_1 _, by omega, ?_⟩, dec_up z' (by omega)⟩)
      · rw [cfw_y hd.1 h32, cfw_y hd.1 h32, cfw_y hd.1 h32, ← ev]; exact hc3
      · rw [cfw_n hd.1 h32, cfw_n hd.1 h32, cfw_n hd.1 h32]; exact hcc
    rw [hgg.2.2.2.1]
    refine ⟨fun z2 => ⟨k1, a0 + 19, r5, u1, hff.1, ?_⟩, fun z2 => ⟨k1, a0 + 19, r5, u1, ?_⟩⟩
    · have e : iw = 0 := n_inj (b := 0) (by omega) (by decide) z2
      rw [hgg.2.2.2.2.1, n_sub (show lo ≤ lo + j by omega), show lo + j - lo = j by omega]
      exact sp_readValue hff (by omega) (f53 _ (wd_lt hff.2.2.2.2.2.2 _) (by rw [if_neg (by omega)]))
    · have e : iw = 1 := by
        rcases (show iw = 0 ∨ iw = 1 by omega) with e | e
        · exact absurd (by rw [e]; rfl) z2
        · exact e
      exact sp_valueToWrite hug hgg hM (by omega) (by omega) (fun i hm _ => by rw [(hmq i hm).2.2.1, e]) (f53 _ (wvk_lt hwf _ (by omega)) (by rw [if_pos e]))
theorem sp_endFromCache {t : Nat} {cf cv ct : Nat → Nat} {Pr : Gt → Prop} (hk : KT G c) (hs : KS sd s c) (hn : gI G 71 c = nI t) (hu : QU X sd (s + 1) G (c + 19) zq qs R W V fu) (hq : q < qs.length) (h5 : R q 5 = 0) (h4 : R q 4 = 0) (hc : CC G (c + 16) cf cv ct t) (hfr : ∀ k, k < R q 3 → R q 2 + k < 32 ∧ cf (plc (R q 1) (R q 2 + k)) = 1)
    (k : ∀ G', QU X sd (s + 1) G' (c + 19) zq qs (va_up R q (fun k => if k = 5 then 1 else if k = 6 then 0 else if k = 8 then 1 else R q k)) (va_up W q (nI t)) (va_up V q (fun k => if k < R q 3 then cv (plc (R q 1) (R q 2 + k)) else V q k)) fu → cg G G' (fun a => sd a = s + 1 ∧ a ≠ c + 19) → Pr G') : wX1_endFromCache X G c (qs.getD q 0) Pr := by
  obtain ⟨_, qc1, qc2, hrq, hwq, hrv⟩ := hu.e hq
  obtain ⟨a1, a2, a3, b0, b1, b2, b3, b4, b5, b6, b7, b8, b9⟩ := id hrq
  obtain ⟨w0, w1, w2, w3, w4, w5, w6, w7, w8, w9, w10⟩ := id hwq
  have nn := q_ne hu hq
  have npc : ∀ a, c ≤ a → a ≤ c + 18 → a ≠ qs.getD q 0 ∧ a ≠ qs.getD q 0 + 1 := fun a h1 h2 => by
    have := hs.r (a := a) h1 (by omega) (by omega)
    exact ⟨(fun e => by rw [← e, this] at qc1; omega), (fun e => by rw [← e, this] at qc2; omega)⟩
  refine ⟨fun g a0 a1 x2 => a0 = c ∧ a1 = qs.getD q 0 ∧ cg G g (fun a => a = qs.getD q 0 + 1) ∧ ∃ i, x2 = nI i ∧ i ≤ R q 3 ∧ ∀ j, j < i → gA g (qs.getD q 0 + 1) j = nI (cv (plc (R q 1) (R q 2 + j))), fun _ _ _ x2 => R q 3 - x2.toNatClampNeg, ⟨rfl, rfl, cg.rf, 0, rfl, by omega, fun j hj => absurd hj (by omega)⟩, ?_⟩
  rintro g a0 a1' x2 ⟨rfl, rfl, p, i, rfl, hi, hj⟩
  have e0 := p.2.2.2.2.2 (qs.getD q 0) (by omega)
  have k1 : gT g (qs.getD q 0) = (1, 9) := e0.1.trans a1
  have k3 : gT g (qs.getD q 0 + 1) = (2, R q 3) := (p.2.2.1 _).trans a3
  obtain ⟨_, v1, ⟨r1, r2, r3, r4, r5, r6, r7⟩, _, _, _, _, hct, _, u1, _⟩ := hk.ch p.ch
  have ec := p.2.2.2.2.2 a0 ((npc a0 (by omega) (by omega)).2)
  have hcc := hc.keep (p.2.2.2.2.2 _ (npc (a0 + 16 + 1) (by omega) (by omega)).2) (p.2.2.2.2.2 _ (npc (a0 + 16 + 2) (by omega) (by omega)).2)
  unfold wX1_endFromCache_2
  rw [e0.2.1, b3]
  refine ⟨k1, fun z => ⟨k1, ?_⟩, fun z => ⟨k1, qs.getD q 0 + 1, (e0.2.2.2.1 _).trans a2, v1, a0 + 16, r4, k1, k1, hct.1, ?_⟩⟩
  · have z' : R q 3 ≤ i := (n_le (by omega) (by omega)).mp z
    rintro G2 rfl
    have n71 : gI (sI g 298 (qs.getD q 0) 1) 71 a0 = nI t := by
      rw [gI_sI, if_neg (fun z => absurd z.1 (by decide)), ec.2.1]; exact hn
    rw [n71]
    have hr2 : RQ (sI g 298 (qs.getD q 0) 1) (qs.getD q 0) (R q) (W q) := by
      have fo : ∀ f, f ≠ 298 → gI (sI g 298 (qs.getD q 0) 1) f (qs.getD q 0) = gI G f (qs.getD q 0) := fun f hf => by
        rw [gI_sI, if_neg (fun z => hf z.1)]; exact e0.2.1 f
      refine ⟨k1, (e0.2.2.2.1 _).trans a2, k3, ?_, ?_, ?_, ?_, ?_, ?_, ?_, ?_, ?_, fun e => absurd e (by omega)⟩
      · rw [fo _ (by decide)]; exact b0
      · rw [fo _ (by decide)]; exact b1
      · rw [fo _ (by decide)]; exact b2
      · rw [fo _ (by decide)]; exact b3
      · rw [fo _ (by decide)]; exact b4
      · rw [fo _ (by decide)]; exact b5
      · rw [fo _ (by decide)]; exact b6
      · rw [fo _ (by decide)]; exact b7
      · rw [fo _ (by decide)]; exact b8
    refine ⟨v1, k1, sp_settle (st := 1) (cd := 0) hr2 (fun G3 hr3 c3 ho3 => ?_)⟩
    have c13 : cg G G3 (fun a => a = qs.getD q 0 ∨ a = qs.getD q 0 + 1) := (p.mono (fun a ha => Or.inr ha)).tr ((cg.sI (Or.inl rfl)).tr (c3.mono (fun a ha => Or.inl ha)))
    refine k G3 (hu.upd hq c13 (hr3.x ⟨rfl, rfl, rfl, rfl, rfl, rfl, rfl, rfl⟩) ⟨w0, w1, w2, w3, w4, w5, w6, w7, (show (1 : Nat) ≤ 2 by decide), (show (0 : Nat) < 256 by decide), w10⟩ (fun _ => ⟨?_, fun _ _ kk hkk => ?_⟩)) (c13.mono (fun a ha => by
      rcases ha with e | e <;> rw [e]
      · exact ⟨qc1, nn.1⟩
      · exact ⟨qc2, nn.2⟩))
    · rw [ho3 298 (by decide) (by decide) (by decide), gI_sI, if_pos ⟨rfl, rfl⟩]; rfl
    · have e1 : gA G3 (qs.getD q 0 + 1) = gA g (qs.getD q 0 + 1) := (c3.2.2.2.2.2 _ (by omega)).2.2.2.2.1
      have hkk' : kk < R q 3 := hkk
      rw [e1, hj kk (by omega)]
      show _ = nI (if kk < R q 3 then cv (plc (R q 1) (R q 2 + kk)) else V q kk)
      rw [if_pos hkk']
  · have z' : i < R q 3 := Nat.lt_of_not_le (fun e => z ((n_le (by omega) (by omega)).mpr e))
    obtain ⟨f1, f2⟩ := hfr i z'
    rw [e0.2.1, e0.2.1, b1, b2, n_add]
    refine sp_valueOf hct hcc ⟨w1, w2⟩ f1 ⟨by rw [k3], by rw [k3]; exact n_in (show i < R q 3 from z') (by show R q 3 < _; omega), ?_⟩
    rw [n_cl (by omega)]
    rintro G2 rfl
    refine ⟨⟨rfl, rfl, p.tr (cg.sA rfl), i + 1, nI_1 i, by omega, fun j hj2 => ?_⟩, dec_up z' (by omega)⟩
    rw [gA_sA]
    by_cases e : j = i
    · subst e
      rw [pk_us]
      unfold cvl
      rw [if_pos f2]
    · rw [pk_un e]; exact hj j (by omega)
end FINISH
