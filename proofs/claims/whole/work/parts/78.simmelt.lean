/-! BOTH SIDES: melt -/
section SM
variable {t : TV} {c : Nat} {st : St}
def bH (t : TV) (c : Nat) : Nat := hiL (plist t (bdI t (nm t c)))
def xH (t : TV) (c k : Nat) : Nat := hiL (plist t (pt t c k))
def hw (t : TV) (c : Nat) : Nat → Int
  | 0 => uses t (nm t c) + 1 + (bH t c : Int)
  | k + 1 => max (hw t c k) ((k : Int) + 2 + (xH t c k : Int))
theorem hw_le {X : Int} : ∀ k, hw t c k ≤ X ↔ uses t (nm t c) + 1 + (bH t c : Int) ≤ X ∧ ∀ j, j < k → (j : Int) + 2 + (xH t c j : Int) ≤ X
  | 0 => ⟨fun h => ⟨h, fun j hj => by omega⟩, fun h => h.1⟩
  | k + 1 => by
    rw [hw, Int.max_le, hw_le k]
    constructor
    · rintro ⟨⟨h1, h2⟩, h3⟩
      refine ⟨h1, fun j hj => ?_⟩
      by_cases e : j = k
      · rw [e]; exact h3
      · exact h2 j (by omega)
    · rintro ⟨h1, h2⟩
      exact ⟨⟨h1, fun j hj => h2 j (by omega)⟩, h2 k (by omega)⟩
def hm (t : TV) (c : Nat) : Nat → Int
  | 0 => (dp t c : Int) + uses t (nm t c) + (bH t c : Int)
  | k + 1 => max (hm t c k) ((dp t c : Int) + (k : Int) + 1 + (if (k : Int) < prI t (nm t c) then (xH t c k : Int) else 1))
theorem hm_le {X : Int} : ∀ k, hm t c k ≤ X ↔ (dp t c : Int) + uses t (nm t c) + (bH t c : Int) ≤ X ∧ ∀ j, j < k → (dp t c : Int) + (j : Int) + 1 + (if (j : Int) < prI t (nm t c) then (xH t c j : Int) else 1) ≤ X
  | 0 => ⟨fun h => ⟨h, fun j hj => by omega⟩, fun h => h.1⟩
  | k + 1 => by
    rw [hm, Int.max_le, hm_le k]
    constructor
    · rintro ⟨⟨h1, h2⟩, h3⟩
      refine ⟨h1, fun j hj => ?_⟩
      by_cases e : j = k
      · rw [e]; exact h3
      · exact h2 j (by omega)
    · rintro ⟨h1, h2⟩
      exact ⟨⟨h1, fun j hj => h2 j (by omega)⟩, h2 k (by omega)⟩
/-- no tree that is written out comes too deep -/
def HI (t : TV) (c : Nat) : Prop := (dp t c : Int) + uses t (nm t c) + (bH t c : Int) ≤ 40 ∧ ∀ j : Nat, (j : Int) < prI t (nm t c) → (dp t c : Int) + (j : Int) + 1 + (xH t c j : Int) ≤ 40
theorem HI_c (w : WF t) (hc : c < mk t) : HI t c ↔ (above t 40 (upI t (c : Int)) : Int) + hw t c (prI t (nm t c)).toNat ≤ 40 := by
  have hp := w.prr (nm t c)
  have hd := dp_up w hc
  have h1 : (above t 40 (upI t (c : Int)) : Int) + hw t c (prI t (nm t c)).toNat ≤ 40 ↔ hw t c (prI t (nm t c)).toNat ≤ 41 - (dp t c : Int) := by omega
  rw [h1, hw_le]
  unfold HI
  constructor
  · rintro ⟨a, b⟩
    exact ⟨by omega, fun j hj => by have := b j (by omega); omega⟩
  · rintro ⟨a, b⟩
    exact ⟨by omega, fun j hj => by have := b j (by omega); omega⟩
theorem HI_m (hb : 1 ≤ bH t c) (hu : 0 ≤ uses t (nm t c)) (hp : prI t (nm t c) ≤ uses t (nm t c)) : HI t c ↔ hm t c (uses t (nm t c)).toNat ≤ 40 := by
  rw [hm_le]
  unfold HI
  constructor
  · rintro ⟨a, b⟩
    refine ⟨a, fun j hj => ?_⟩
    split
    · rename_i q
      exact b j q
    · omega
  · rintro ⟨a, b⟩
    refine ⟨a, fun j hj => ?_⟩
    have := b j (by omega)
    rw [if_pos hj] at this
    exact this
/-- what must hold of a call in a body that a routine with a body is melted -/
def FI (t : TV) (c : Nat) : Prop := (mk t : Int) + wgt t c + 1 ≤ 600 ∧ qs t c + uses t (nm t c) ≤ 40 ∧ HI t c
theorem wgt_r (w : WF t) : -300 ≤ wgt t c ∧ wgt t c ≤ 1000 := by
  have hpr := w.prr (nm t c)
  have hus := w.us (nm t c)
  have hl := plist_len (t := t) (z := bdI t (nm t c)) w.trr
  have hm := w.m
  unfold wgt
  omega
theorem bH_40 (w : WF t) : bH t c ≤ 40 := hi_40 w _
theorem hw_r (w : WF t) : ∀ k, k ≤ 3 → 0 ≤ hw t c k ∧ hw t c k ≤ 100
  | 0, _ => by
    have := bH_40 (c := c) w
    have := w.us (nm t c)
    unfold hw
    omega
  | k + 1, hk => by
    have h1 := hw_r w k (by omega)
    have h2 : xH t c k ≤ 40 := hi_40 w _
    rw [hw]
    omega
theorem c_highWritten {P : Int → Hp → Prop} {h : Hp} (w : WF t) (R : RC t h) (hc : c < mk t) (p : ∀ h', fr 9 13 h h' → P (hw t c (prI t (nm t c)).toNat) h') : Cl shC mX3_highWrittenOut [pR 28, pI (c : Int), pI (uses t (nm t c))] h P := by
  have hu := w.us (nm t c)
  have hp := w.prr (nm t c)
  have hb := bH_40 (c := c) w
  have loop : ∀ (d k : Nat) (h1 : Hp), k + d = (prI t (nm t c)).toNat → fr 9 13 h h1 → Ok shC 0 0 mX3_highWrittenOut 33 [some (pR 28), some (pI (c : Int)), none, some (pI (nm t c)), some (pI (hw t c k)), some (pI (k : Int))] [] h1 P := by
    intro d
    induction d with
    | zero =>
      intro k h1 hk x
      have R1 := R.wk isW9 x
      refine sX3_highWrittenOut_33 (c_paramsOf R1 _ ⟨fun _ => ?_, fun z => absurd z (by omega)⟩)
      rw [show k = (prI t (nm t c)).toNat from hk]
      exact p h1 x
    | succ d ih =>
      intro k h1 hk x
      have R1 := R.wk isW9 x
      have hr := hw_r (c := c) w k (by omega)
      refine sX3_highWrittenOut_33 (c_paramsOf R1 _ ⟨fun z => absurd z (by omega), fun _ => ⟨by unfold inR; omega, c_partOf R1 _ _ ?_⟩⟩)
      rw [ptI_at hc (by omega)]
      refine c_highOf w R1 _ (fun h2 x2 => ?_)
      have h40 := hi_40 w (pt t c k)
      refine ⟨by unfold inR; omega, by unfold inR; omega, ?_⟩
      exact ih (k + 1) h2 (by omega) (x.tr x2)
  refine sX3_highWrittenOut_0 (c_numberOf R c ?_)
  rw [nmI_at hc]
  refine ⟨by unfold inR; omega, c_bodyOf R _ (c_highOf w R _ (fun h1 x1 => ⟨?_, ?_⟩))⟩
  · have : hiL (plist t (bdI t (nm t c))) ≤ 40 := hb
    unfold inR
    omega
  · exact loop (prI t (nm t c)).toNat 0 h1 (by omega) x1
theorem c_fits {P : Int → Hp → Prop} {h : Hp} (w : WF t) (R : RC t h) (hc : c < mk t) (p1 : FI t c → ∀ h', fr 9 13 h h' → P 1 h') (p0 : ¬ FI t c → ∀ h', fr 9 13 h h' → P 0 h') : Cl shC mX3_fits [pR 28, pI (c : Int)] h P := by
  have hu := w.us (nm t c)
  have hu2 := w.us (home t (c : Int))
  have hp := w.prr (nm t c)
  have hw2 := wgt_r (c := c) w
  have hm := w.m
  have hwr := hw_r (c := c) w (prI t (nm t c)).toNat (by omega)
  have hHI := HI_c w hc
  have hab : above t 40 (upI t (c : Int)) ≤ 40 := by
    have k : ∀ (n : Nat) (z : Int), above t n z ≤ n := by
      intro n
      induction n with
      | zero => exact fun z => Nat.le_refl _
      | succ n ih =>
        intro z
        unfold above
        split
        · omega
        · have := ih (upI t z)
          omega
    exact k 40 _
  refine sX3_fits_0 (c_numberOf R c ?_)
  rw [nmI_at hc]
  refine c_usesOf w R _ (fun h1 x1 => c_routineOf (R.wk isW9 x1) _ (c_usesOf w (R.wk isW9 x1) _ (fun h2 x2 => ?_)))
  have R2 := (R.wk isW9 x1).wk isW9 x2
  refine ⟨by unfold inR; omega, c_weightOf w R2 hc (fun h3 x3 => ?_)⟩
  have R3 := R2.wk isW9 x3
  rw [R2.1]
  refine ⟨by unfold inR; omega, by unfold inR; omega, c_stepsAbove R3 _ (c_highWritten w R3 hc (fun h4 x4 => ⟨by unfold inR; omega, ?_⟩))⟩
  have x := ((x1.tr x2).tr x3).tr x4
  refine ⟨fun q => p0 (fun z => absurd z.1 (by omega)) h4 x, fun q => ⟨fun q2 => p0 (fun z => ?_) h4 x, fun q2 => ⟨fun q3 => p0 (fun z => ?_) h4 x, fun q3 => p1 ⟨by omega, ?_, hHI.mpr (by omega)⟩ h4 x⟩⟩⟩
  · have := z.2.1
    unfold qs at this
    omega
  · have := hHI.mp z.2.2
    omega
  · unfold qs
    omega
theorem hm_r (w : WF t) (hd : dp t c ≤ 40) : ∀ k, k ≤ 40 → 0 ≤ hm t c k ∧ hm t c k ≤ 200
  | 0, _ => by
    have := bH_40 (c := c) w
    have := w.us (nm t c)
    unfold hm
    omega
  | k + 1, hk => by
    have h1 := hm_r w hd k (by omega)
    have h2 : xH t c k ≤ 40 := hi_40 w _
    rw [hm]
    split <;> omega
theorem m_highMelted {P : Int → Hp → Prop} {g : Hp} (w : WF t) (M : RM t g) (hc : c < mk t) (h6 : kd t c = 6) (hb : al t (bdI t (nm t c))) (p : ∀ g', fm 9 11 g g' → P (hm t c (uses t (nm t c)).toNat) g') : Cl shM mX9_highMelted [pR 0, pI (c : Int)] g P := by
  have hu := w.us (nm t c)
  have hp := w.prr (nm t c)
  have hmm := w.m
  have hk6 : kd t c ≠ -1 := by rw [h6]; decide
  have hn := (w.nmr hc hk6).2 h6
  have hb2 : bdI t (nm t c) = bd t (nm t c).toNat := if_pos hn
  have hpr2 : prI t (nm t c) = pr t (nm t c).toNat := if_pos hn
  have hbH := bH_40 (c := c) w
  have hdr := dp_rk w hc hk6
  have hrk := rk_pos w hc hk6
  have hge : prI t (nm t c) ≤ uses t (nm t c) := usL_ge t (plist t (bdI t (nm t c))) (prI t (nm t c))
  have f := fun k h3 => (w.2.2.2.2.2.1 c hc hk6).2.2.2 k h3
  have har : (ar t c : Int) = prI t (nm t c) := by
    unfold ar
    rw [h6, if_neg (by omega), if_neg (by omega), if_neg (by omega), if_pos rfl, ← hpr2]
    omega
  have l62 : ∀ (d k : Nat) (g1 : Hp), k + d = (uses t (nm t c)).toNat → fm 9 11 g g1 → Ok shM 0 0 mX9_highMelted 62 [some (pR 0), some (pI (c : Int)), some (pI (dp t c : Int)), some (pI (nm t c)), some (pI (uses t (nm t c))), some (pI (hm t c k)), some (pI (k : Int)), none] [] g1 P := by
    intro d
    induction d with
    | zero =>
      intro k g1 hk x
      refine sX9_highMelted_62 ⟨fun _ => ?_, fun z => absurd z (by omega)⟩
      rw [show k = (uses t (nm t c)).toNat from hk]
      exact p g1 x
    | succ d ih =>
      intro k g1 hk x
      have M1 := M.kp x (by decide)
      have hr := hm_r (c := c) w (by omega) k (by omega)
      have s1 : hm t c (k + 1) = max (hm t c k) ((dp t c : Int) + (k : Int) + 1 + (if (k : Int) < prI t (nm t c) then (xH t c k : Int) else 1)) := rfl
      refine sX9_highMelted_62 ⟨fun z => absurd z (by omega), fun _ => ⟨(nm t c).toNat, by omega, by omega, ?_⟩⟩
      rw [M1.q (by omega), ← hpr2]
      refine ⟨fun z => ⟨by unfold inR; omega, by unfold inR; omega, by unfold inR; omega, fun z2 => ⟨by unfold inR; omega, ?_⟩, fun z2 => ⟨by unfold inR; omega, ?_⟩⟩, fun z => ?_⟩
      · have nx := ih (k + 1) g1 (by omega) x
        rw [s1, if_neg (by omega), show max (hm t c k) ((dp t c : Int) + (k : Int) + 1 + 1) = hm t c k by omega] at nx
        exact nx
      · have nx := ih (k + 1) g1 (by omega) x
        rw [s1, if_neg (by omega), show max (hm t c k) ((dp t c : Int) + (k : Int) + 1 + 1) = (dp t c : Int) + (k : Int) + 1 + 1 by omega] at nx
        exact nx
      · have h0 := (f k (by omega)).1 (by omega)
        have hcc : (pt t c k).toNat ∈ ch t c := mem_ch.mpr ⟨k, by omega, h0, rfl⟩
        have hca := ch_al w hc hk6 hcc
        have hal : al t (pt t c k) := by
          have : pt t c k = ((pt t c k).toNat : Int) := by omega
          rw [this]
          exact al_n.mpr hca
        have hx40 : hiL (plist t (pt t c k)) ≤ 40 := hi_40 w _
        refine ⟨by unfold inR; omega, by unfold inR; omega, 3 * c + k, by omega, by omega, ?_⟩
        rw [M1.p hc (by omega)]
        refine m_high w M1 hal (fun g2 x2 => ⟨by unfold inR; omega, by unfold inR; omega, by unfold inR; omega, fun z2 => ⟨by unfold inR; omega, ?_⟩, fun z2 => ⟨by unfold inR; omega, ?_⟩⟩)
        · have nx := ih (k + 1) g2 (by omega) (x.tr x2)
          have e : (xH t c k : Int) = (hiL (plist t (pt t c k)) : Int) := rfl
          rw [s1, if_pos (by omega), e, show max (hm t c k) ((dp t c : Int) + (k : Int) + 1 + (hiL (plist t (pt t c k)) : Int)) = hm t c k by omega] at nx
          exact nx
        · have nx := ih (k + 1) g2 (by omega) (x.tr x2)
          have e : (xH t c k : Int) = (hiL (plist t (pt t c k)) : Int) := rfl
          rw [s1, if_pos (by omega), e, show max (hm t c k) ((dp t c : Int) + (k : Int) + 1 + (hiL (plist t (pt t c k)) : Int)) = (dp t c : Int) + (k : Int) + 1 + (hiL (plist t (pt t c k)) : Int) by omega] at nx
          exact nx
  have key : ∀ (n j : Nat) (x : Int), j + n = 40 → al t x → ¬ tr t j x.toNat → j + 1 + above t n (upI t x) = dp t c → Ok shM 0 0 mX9_highMelted 4 [some (pR 0), some (pI (c : Int)), some (pI ((j : Int) + 1)), some (pI x), none, none, none, none] [] g P := by
    intro n
    induction n with
    | zero =>
      intro j x hj ha hnt _
      have e : j = 40 := hj
      subst e
      exact absurd (w.trr ha) hnt
    | succ n ih =>
      intro j x hj ha hnt hd
      have hux : upI t x = up t x.toNat := if_pos ⟨ha.1, ha.2.1⟩
      have ha0 := ha.1
      have ha1 := ha.2.1
      refine sX9_highMelted_4 (exI ha.1 (by omega) ?_)
      rw [M.u (by omega), ← hux]
      refine ⟨fun z => ⟨c, rfl, by omega, ?_⟩, fun z => ⟨by unfold inR; omega, ?_⟩⟩
      · have ed : dp t c = j + 1 := by
          rw [z, above_4] at hd
          omega
        rw [M.n hc]
        refine m_uses w M hn (fun g1 x1 => ⟨by unfold inR; omega, (nm t c).toNat, by omega, by omega, ?_⟩)
        have M1 := M.kp x1 (by decide)
        rw [M1.b (by omega), ← hb2]
        refine m_high w M1 hb (fun g2 x2 => ⟨?_, ?_⟩)
        · have : hiL (plist t (bdI t (nm t c))) ≤ 40 := hbH
          unfold inR
          omega
        · have := l62 (uses t (nm t c)).toNat 0 g2 (by omega) (x1.tr x2)
          rw [ed] at this
          have e2 : hm t c 0 = (dp t c : Int) + uses t (nm t c) + (bH t c : Int) := rfl
          rw [e2, ed] at this
          exact this
      · have h2 := (up_al w ha).resolve_left z
        have h3 := ih (j + 1) (upI t x) (by omega) h2.1 (fun q => hnt (by have := tr_ch q h2.2; exact this)) (by
          rw [← hd]
          show _ = j + 1 + (if upI t x = -4 then 0 else above t n (upI t (upI t x)) + 1)
          rw [if_neg z]
          omega)
        exact h3
  have := key 40 0 (c : Int) rfl (al_n.mpr ⟨hc, hk6⟩) (fun q => q) (by rw [dp_up w hc]; omega)
  exact sX9_highMelted_0 this
theorem ws_push2 (w : WS st) {t' : TV} (w' : WF t') (hm : mk (sT st) ≤ mk t') (hr : rt t' = rt (sT st)) (hp : ∀ r, pr t' r = pr (sT st) r) : WS (t', sN st, sW st, pushU (sU st) (sT st), sQ st, sL st) := by
  have h0 := ws_push (t' := sT st) w w.1 rfl rfl (fun _ => rfl)
  obtain ⟨_, a2, a3, a4, a5⟩ := h0
  refine ⟨w', a2, fun u hu => ?_, fun s hs => ?_, a5⟩
  · obtain ⟨k1, k2, k3, k4⟩ := a3 u hu
    have k2 : rt u = rt (sT st) := k2
    refine ⟨k1, k2.trans hr.symm, fun q hq => ?_, Nat.le_trans k4 hm⟩
    have hq : q < rt t' := hq
    exact (k3 q (by show q < rt (sT st); omega)).trans (hp q).symm
  · have hs : mk t' ≤ s := hs
    exact a4 s (by show mk (sT st) ≤ s; omega)
theorem mh_of (w : WF t) (hc : cib t (c : Int)) (hcm : c < mk t) (hb : bdI t (nm t c) ≠ -4) (f : FI t c) : MH t c ∧ HH t c := by
  have h6 : kd t c = 6 := by
    have := hc.1
    rwa [kdI_at hcm] at this
  have h : MH t c := ⟨w, hcm, h6, hb, hc.2, f.1, f.2.1⟩
  refine ⟨h, ?_, fun k hk => ?_⟩
  · have e : rk t (dk t c 0) = bH t c := by
      rw [h.dk0.1]
      unfold rk bH
      rw [Int.toNat_of_nonneg h.rt.1]
    have h2 := h.u4.2.2
    have h3 := f.2.2.1
    rw [e]
    omega
  · have e : rk t (qx t c k) = xH t c k := by
      unfold rk xH
      rw [(h.x hk).1]
    have h2 := h.p3.2
    have h3 := f.2.2.2 k (by omega)
    rw [e]
    omega
theorem c_writeOut {P : Int → Hp → Prop} {h0 : Hp} (h : MH t c) (R : RC t h0) (p : ∀ h', (∀ a, a < 2 ∨ (18 < a ∧ a ≠ 29) → h'.1 a = h0.1 a ∧ h'.2.1 a = h0.2.1 a) → h'.2.2 = h0.2.2 → RC (FT t c) h' → P (mk t : Int) h') : Cl shC mX3_writeOut [pR 28, pI (c : Int)] h0 P := by
  have hcm := h.2.1
  have w := h.1
  have hu := h.u4
  have hp3 := h.p3
  have hEd : qE t c = qK t c + 1 + (qD t c).length := rfl
  have hK := qK_ge t c
  have hck : kd t c ≠ -1 := by rw [h.2.2.1]; decide
  refine sX3_writeOut_0 (c_numberOf R c ?_)
  rw [nmI_at hcm]
  refine c_usesOf w R _ (fun h1 x1 => c_paramsOf (R.wk isW9 x1) _ (c_routineOf (R.wk isW9 x1) _ (c_usesOf w (R.wk isW9 x1) _ (fun h2 x2 => ?_))))
  have R2 := (R.wk isW9 x1).wk isW9 x2
  refine c_bodyOf R2 _ (c_over isW14 R2 _ w.trr (fun h3 x3 hs3 hD3 => ?_))
  have R3 := R2.wk isW14 x3
  have fin : ∀ h' lk', hz h3 h' → RC (CT t c false lk' 0 (qE t c)) h' → lkI t c (qE t c) (qp t c) lk' → Cl shC mX1_takePlace [pR 1, pI (c : Int), pI (mk t : Int)] h' (fun _ h4 => Cl shC mX1_endTree [pR 1, pI (c : Int)] h4 (fun _ h5 => P (mk t : Int) h5)) := by
    intro h' lk' x R' I'
    have lm : lk' (mk t) = false := by
      cases q : lk' (mk t) with
      | false => rfl
      | true =>
        exfalso
        rcases (I' _).mp q with e | ⟨k, _, k2, k3⟩
        · omega
        · have := (h.x k2).2.1
          omega
    have lc : lk' c = false := by
      cases q : lk' c with
      | false => rfl
      | true =>
        exfalso
        rcases (I' _).mp q with e | ⟨k, _, k2, k3⟩
        · omega
        · exact (h.x k2).2.2.2.2.1 k3.symm
    have eo : up (CT t c false lk' 0 (qE t c)) (mk t) = -4 := by rw [CT_u, lm, if_neg (by decide), if_neg (by omega)]
    have ec : up (CT t c false lk' 0 (qE t c)) c = up t c := by rw [CT_u, lc, if_neg (by decide), if_pos hcm]
    have alc : al (CT t c false lk' 0 (qE t c)) (c : Int) := al_n.mpr ⟨by show c < qE t c; omega, by rw [CT_k, if_pos hcm]; exact hck⟩
    refine c_takePlace R' alc (CT_al h (Nat.le_refl _) (by omega) (Nat.le_refl _)) (by omega) (Or.inl eo) ?_ (fun h4 x4 R4 => ?_)
    · rw [ec]
      rcases mh_up h with q | ⟨q, _⟩
      · exact Or.inl q
      · refine Or.inr ⟨q.1, ?_⟩
        show up t c < (qE t c : Int)
        have := q.2.1
        omega
    · have R4 := R4.te (te_tkP h rfl (fun _ => rfl) eo ec (fun _ => rfl))
      have hpt : ∀ k, k < 3 → pt (YT (CT t c false lk' 0 (qE t c)) t c) c k = -4 := fun k hk => by
        show (YT (CT t c false lk' 0 (qE t c)) t c).1 2 (3 * c + k) = -4
        rw [YT_at, if_neg (by decide), if_neg (by omega), if_neg (by omega), if_neg]
        · show pt (CT t c false lk' 0 (qE t c)) c k = -4
          rw [CT_p _ _ _ _ hk, if_pos hcm]
          by_cases kp : k < qp t c
          · have hx := h.x kp
            rw [if_pos ⟨rfl, rfl, by omega, (I' _).mpr (Or.inr ⟨k, kp, kp, rfl⟩)⟩]
          · have hx := h.xz (k := k) (by omega) hk
            rw [if_neg (fun y => by have := y.2.2.1; omega)]
            exact hx
        · rintro ⟨_, y1, y2, _⟩
          rcases mh_up h with q | ⟨q, _, q3⟩
          · exact y1 q
          · have := q.1
            omega
      have hch : ch (YT (CT t c false lk' 0 (qE t c)) t c) c = [] := by
        have hf : ∀ k, k < 3 → pf (YT (CT t c false lk' 0 (qE t c)) t c) c k = [] := fun k hk => by
          unfold pf
          rw [hpt k hk, if_neg (by decide)]
        rw [ch_eq, hf 0 (by decide), hf 1 (by decide), hf 2 (by decide)]
        rfl
      have ekc : kd (YT (CT t c false lk' 0 (qE t c)) t c) c = kd t c := by
        show (YT (CT t c false lk' 0 (qE t c)) t c).1 0 c = _
        rw [YT_at, if_neg (by decide), if_neg (by omega), if_neg (by omega), if_neg (fun y => absurd y.1 (by decide))]
        show kd (CT t c false lk' 0 (qE t c)) c = _
        rw [CT_k, if_pos hcm]
      have alY : al (YT (CT t c false lk' 0 (qE t c)) t c) (c : Int) := al_n.mpr ⟨by show c < qE t c; omega, by rw [ekc]; exact hck⟩
      have trY : tr (YT (CT t c false lk' 0 (qE t c)) t c) 40 c := ⟨by show c < qE t c; omega, by rw [ekc]; exact hck, fun k hk => Or.inl (by rw [hpt k hk]; decide), fun y hy => by rw [hch] at hy; cases hy⟩
      refine c_endTree R4 (fun _ => trY) (fun h5 x5 R5 => ?_)
      have epl : plist (YT (CT t c false lk' 0 (qE t c)) t c) (c : Int) = [(c, 1)] := by
        rw [plist_al alY]
        show (c, 1) :: (ch _ c).flatMap _ = _
        rw [hch]
        rfl
      rw [epl] at R5
      have R5 : RC (clr (YT (CT t c false lk' 0 (qE t c)) t c) c (-1) 0) h5 := R5
      have R5 := R5.te (te_FT h I')
      refine p h5 (fun a ha => ⟨?_, ?_⟩) ?_ R5
      · rw [x5.a (by omega), x4.a (by omega), (x.1 a (by omega)).1, x3.a (by omega), x2.a (by omega), x1.a (by omega)]
      · rw [x5.i (by omega), x4.i (by omega), (x.1 a (by omega)).2, x3.i (by omega), x2.i (by omega), x1.i (by omega)]
      · rw [x5.2, x4.2, x.2, x3.2, x2.2, x1.2]
  have eb : qb t c 0 = mk t := by unfold qb; omega
  have R3' : RC (CT t c false (fun _ => false) 0 (qb t c 0)) h3 := by
    rw [eb]
    exact R3.te (CT_0 false 0 (fun _ => false) (fun _ => rfl))
  have I0 : lkI t c (qb t c 0) 0 (fun _ => false) := fun s => by
    rw [eb]
    constructor
    · intro q
      cases q
    · rintro (e | ⟨k, k1, _⟩) <;> omega
  have := c_loop78 h hs3 hD3 fin (qu t c) 0 h3 (fun _ => false) (by omega) hz.rf R3' I0
  rw [hu.2.2, hp3.2] at this
  exact this
theorem m_writeOut {P : Int → Hp → Prop} {g : Hp} (h : MH t c) (M : RM t g) (p : ∀ g', mz (mk t) g g' → RM (FT t c) g' → P (mk t : Int) g') : Ok shM 0 0 mX9_melt 107 [some (pR 0), some (pI (c : Int)), some (pI (nm t c)), none, some (pI (qs t c)), some (pI (uses t (nm t c))), some (pI (-4)), some (pI (-4)), some (pI 0), none, none] [] g P := by
  have hcm := h.2.1
  have hu := h.u4
  have hE := h.E
  have hEd : qE t c = qK t c + 1 + (qD t c).length := rfl
  have hK := qK_ge t c
  have eb : qb t c 0 = mk t := by unfold qb; omega
  have M1 : RM (CT t c true (fun _ => false) 0 (qb t c 0)) g := by
    rw [eb]
    exact M.te (CT_0 true 0 (fun _ => false) (fun _ => rfl))
  have fin : ∀ h' lk', mz (mk t) g h' → RM (CT t c true lk' (qu t c) (qE t c)) h' → lkI t c (qE t c) (qp t c) lk' → Cl shM mX9_puts [pR 0, pI (c : Int), pI (mk t : Int)] h' (fun _ h1 => Cl shM mX9_goneAlone [pR 0, pI (c : Int)] h1 (fun _ h2 => P (mk t : Int) h2)) := by
    intro h' lk' x M' I'
    have lm : lk' (mk t) = false := by
      cases q : lk' (mk t) with
      | false => rfl
      | true =>
        exfalso
        rcases (I' _).mp q with e | ⟨k, _, k2, k3⟩
        · omega
        · have := (h.x k2).2.1
          omega
    have lc : lk' c = false := by
      cases q : lk' c with
      | false => rfl
      | true =>
        exfalso
        rcases (I' _).mp q with e | ⟨k, _, k2, k3⟩
        · omega
        · exact (h.x k2).2.2.2.2.1 k3.symm
    have eo : up (CT t c true lk' (qu t c) (qE t c)) (mk t) = -4 := by rw [CT_u, lm, if_neg (by decide), if_neg (by omega)]
    have ec : up (CT t c true lk' (qu t c) (qE t c)) c = up t c := by rw [CT_u, lc, if_neg (by decide), if_pos hcm]
    refine m_puts M' (by show c < qE t c; omega) (by show mk t < qE t c; omega) (by omega) ?_ (fun h1 x1 e5 e6 M1 => ?_)
    · rw [ec]
      rcases mh_up h with q | ⟨q, _⟩
      · exact Or.inl q
      · refine Or.inr ⟨q.1, ?_⟩
        show up t c < (qE t c : Int)
        have := q.2.1
        omega
    · have M1 := M1.te (te_puP h rfl (fun _ => rfl) eo ec (fun _ => rfl))
      refine m_goneAlone M1 (by omega) (fun h2 x2 M2 => ?_)
      have M2 := M2.te (te_FT h I')
      exact p h2 ((x.gn (x1.wd (by decide) (by decide)) e5).gn (x2.wd (by decide) (by decide)) (x2.1 5 (by decide))) M2
  have I0 : lk0 t c (qb t c 0) (fun _ => false) := fun s => by
    rw [eb]
    constructor
    · intro q
      cases q
    · intro q
      omega
  have := m_loop107 h fin (qu t c) 0 g (fun _ => false) (by omega) mz.rf M1 I0
  rw [hu.2.2] at this
  exact this
theorem sim_melt (w : WS st) (z : Int) : Sim1 st mX8_melt mX9_melt [pI z] := by
  intro h g R M
  have hm := w.1.m
  by_cases hc : cib (sT st) z
  · have hz2 := cib_at hc
    obtain ⟨c, rfl⟩ := Int.eq_ofNat_of_zero_le hz2.1
    have hcm : c < mk (sT st) := by omega
    have h6 : kd (sT st) c = 6 := by
      have := hc.1
      rwa [kdI_at hcm] at this
    have hk6 : kd (sT st) c ≠ -1 := by rw [h6]; decide
    have hn := (w.1.nmr hcm hk6).2 h6
    have hb2 : bdI (sT st) (nm (sT st) c) = bd (sT st) (nm (sT st) c).toNat := if_pos hn
    by_cases hb : bdI (sT st) (nm (sT st) c) = -4
    · refine ⟨-2, st, w, sX8_melt_0 (c_isCallInBody R.1 _ ⟨fun _ => c_numberOf R.1 _ (c_isMissing R.1 _ ⟨fun q => absurd ?_ (b2_0.mp q), fun _ => ⟨rfl, R⟩⟩), fun q => absurd hc (b2_0.mp q)⟩), sX9_melt_0 (m_isCall w.1 M.1 _ ⟨fun _ => ⟨c, rfl, by omega, (nm (sT st) c).toNat, ?_, by omega, fun q => absurd ?_ q, fun _ => ⟨rfl, M⟩⟩, fun q => absurd hc (b2_0.mp q)⟩)⟩
      · rw [nmI_at hcm]; exact hb
      · rw [M.1.n hcm]; omega
      · rw [M.1.b (by omega), ← hb2]; exact hb
    · have hal : al (sT st) (bdI (sT st) (nm (sT st) c)) := by
        rw [hb2] at hb ⊢
        exact ((w.1.2.2.1 _ (by omega)).2.2.resolve_left hb).1
      have hhome : 0 ≤ home (sT st) (c : Int) ∧ home (sT st) (c : Int) < (rt (sT st) : Int) := by
        have h4 := hc.2
        unfold home at h4 ⊢
        rw [if_pos (al_n.mpr ⟨hcm, hk6⟩)] at h4 ⊢
        rcases owF_ge (sT st) (root (sT st) 40 (c : Int)) (rt (sT st)) 0 with e | ⟨k, e, _, h2, _⟩
        · exact absurd e h4
        · have e : ow (sT st) (root (sT st) 40 (c : Int)) = (k : Int) := e
          rw [e]
          omega
      have hus := w.1.us (nm (sT st) c)
      have hus2 := w.1.us (home (sT st) (c : Int))
      have hwr := wgt_r (c := c) w.1
      have hge : prI (sT st) (nm (sT st) c) ≤ uses (sT st) (nm (sT st) c) := usL_ge (sT st) (plist (sT st) (bdI (sT st) (nm (sT st) c))) (prI (sT st) (nm (sT st) c))
      have hbH : 1 ≤ bH (sT st) c := by
        unfold bH
        obtain ⟨b, hbb⟩ := Int.eq_ofNat_of_zero_le hal.1
        rw [hbb] at hal ⊢
        rw [plist_al hal]
        exact hiL_ge (q := (b, 1)) (mem_pre.mpr (Or.inl rfl))
      have hHm := HI_m (t := sT st) (c := c) hbH hus.1 hge
      -- the reference comes to its last question
      have mgo : ∀ (P : Int → Hp → Prop), (¬ FI (sT st) c → ∀ g', fm 9 11 g g' → P (-3) g') → (FI (sT st) c → ∀ g', fm 9 11 g g' → Cl shM mX9_keep [pR 0] g' (fun _ h7 => Ok shM 0 0 mX9_melt 107 [some (pR 0), some (pI (c : Int)), some (pI (nm (sT st) c)), none, some (pI (qs (sT st) c)), some (pI (uses (sT st) (nm (sT st) c))), some (pI (-4)), some (pI (-4)), some (pI 0), none, none] [] h7 P)) → Cl shM mX9_melt [pR 0, pI (c : Int)] g P := by
        intro P q0 q1
        refine sX9_melt_0 (m_isCall w.1 M.1 _ ⟨fun _ => ⟨c, rfl, by omega, (nm (sT st) c).toNat, by rw [M.1.n hcm]; omega, by omega, fun _ => ?_, fun q => absurd q (by rw [M.1.b (by omega), ← hb2]; exact hb)⟩, fun q => absurd hc (b2_0.mp q)⟩)
        rw [M.1.n hcm]
        refine m_homeOf w.1 M.1 (al_n.mpr ⟨hcm, hk6⟩) (m_uses w.1 M.1 hhome (fun g1 x1 => m_uses w.1 (M.1.kp x1 (by decide)) hn (fun g2 x2 => ?_)))
        have M2 := (M.1.kp x1 (by decide)).kp x2 (by decide)
        refine m_weightOf w.1 M2 hcm h6 hb (fun g3 x3 => ?_)
        have M3 := M2.kp x3 (by decide)
        have x := (x1.tr x2).tr x3
        rw [M2.1]
        refine ⟨by unfold inR; omega, by unfold inR; omega, fun e => q0 (fun f => absurd f.1 (by omega)) g3 x, fun e => ⟨by unfold inR; omega, fun e2 => q0 (fun f => ?_) g3 x, fun e2 => m_highMelted w.1 M3 hcm h6 hal (fun g4 x4 => ⟨fun e3 => q1 ⟨by omega, ?_, hHm.mpr e3⟩ g4 (x.tr x4), fun e3 => q0 (fun f => e3 (hHm.mp f.2.2)) g4 (x.tr x4)⟩)⟩⟩
        · have := f.2.1
          unfold qs at this
          omega
        · unfold qs
          omega
      by_cases f : FI (sT st) c
      · obtain ⟨mh, hh⟩ := mh_of w.1 hc hcm hb f
        have hE := mh.E
        have hK := qK_ge (sT st) c
        refine ⟨(mk (sT st) : Int), _, ws_push2 w (wf_FT mh hh) (by show mk (sT st) ≤ qK (sT st) c + 1 + _; omega) rfl (fun _ => rfl), sX8_melt_0 (c_isCallInBody R.1 _ ⟨fun _ => c_numberOf R.1 _ (c_isMissing R.1 _ ⟨fun _ => ?_, fun q => absurd (b2_n0.mp q) (by rw [nmI_at hcm]; exact hb)⟩), fun q => absurd hc (b2_0.mp q)⟩), ?_⟩
        · refine c_fits w.1 R.1 hcm (fun _ h1 x1 => ⟨fun _ => ?_, fun q => absurd q (by decide)⟩) (fun q => absurd f q)
          have R1 := R.rd x1 ⟨by decide, by decide⟩
          refine c_holdK R1.1 R1.2.2 (fun h3 k3 cp3 => c_writeOut mh (k3.rc R1.1) (fun h4 x4 xc R4 => ⟨rfl, R4, ?_, ?_⟩))
          · have c3 : CX (FT (sT st) c, sN st, sW st, pushU (sU st) (sT st), sQ st, sL st) h3 := k3.cx (st := st) R1.2.1
            exact c3.kp (x4 19 (by decide)).2 (x4 20 (by decide)).1 (x4 21 (by decide)).1 (x4 40 (by decide)).2 (x4 44 (by decide)).1
          · exact cp3.kp (x4 38 (by decide)).2 xc (fun a ha => x4 a (by omega))
        · refine mgo _ (fun q => absurd f q) (fun _ g1 x1 => ?_)
          have M1 := M.rd x1 ⟨by decide, by decide⟩
          refine m_keep M1.1 M1.2.2 w.2.1 (fun u hu => (w.2.2.1 u hu).1.m) (fun g2 f2 M2 => m_writeOut mh (f2.rm M1.1) (fun g3 x3 M3 => ⟨rfl, M3, ?_, ?_⟩))
          · obtain ⟨y1, y2, ⟨y3, y4, y5, y6, y7⟩, y8⟩ := M1.2.1
            have fi : ∀ k, 24 ≤ k → g3.2.1 0 k = g1.2.1 0 k := fun k hk => (x3.2.2.1 0 k (by omega)).trans (f2.2.1 0 k (by omega))
            have fa : ∀ a, (a = 0 ∨ a = 8 ∨ a = 12 ∨ 22 < a) → g3.1 a = g1.1 a := fun a ha => (x3.1 a (by omega)).trans (f2.1 a (by omega))
            refine ⟨fun s hs => ?_, fun i hi => ?_, ⟨(fi 26 (by decide)).trans y3, (fi 24 (by decide)).trans y4, (fi 27 (by decide)).trans y5, ?_, (fi 30 (by decide)).trans y7⟩, y8.kp (fun k hk => fi k (by omega)) (fa 27 (by decide))⟩
            · have e5 : g2.1 5 s = sN st s := (congrFun (f2.1 5 (by decide)) s).trans (y1 s hs)
              rcases x3.2.1 s with e | ⟨e1, e2⟩
              · exact e.trans e5
              · rw [e2]
                exact (w.2.2.2.1 s e1).symm
            · rw [fa 8 (by decide)]
              exact y2 i hi
            · rw [fi 31 (by decide), fi 28 (by decide)]
              exact y6
          · exact M2.kp (x3.2.2.1 0 13 (by omega)) (x3.1 19 (by decide)) (x3.1 20 (by decide)) (x3.1 21 (by decide))
      · refine ⟨-3, st, w, sX8_melt_0 (c_isCallInBody R.1 _ ⟨fun _ => c_numberOf R.1 _ (c_isMissing R.1 _ ⟨fun _ => ?_, fun q => absurd (b2_n0.mp q) (by rw [nmI_at hcm]; exact hb)⟩), fun q => absurd hc (b2_0.mp q)⟩), mgo _ (fun _ g' x => ⟨rfl, M.rd x ⟨by decide, by decide⟩⟩) (fun q => absurd q f)⟩
        exact c_fits w.1 R.1 hcm (fun q => absurd q f) (fun _ h1 x1 => ⟨fun q => absurd rfl q, fun _ => ⟨rfl, R.rd x1 ⟨by decide, by decide⟩⟩⟩)
  · exact ⟨-1, st, w, sX8_melt_0 (c_isCallInBody R.1 z ⟨fun q => absurd (b2_n0.mp q) hc, fun _ => ⟨rfl, R⟩⟩), sX9_melt_0 (m_isCall w.1 M.1 z ⟨fun q => absurd (b2_n0.mp q) hc, fun _ => ⟨rfl, M⟩⟩)⟩
end SM
