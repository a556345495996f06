/-! BOTH SIDES: weight, told, count, routine, about -/
section SQ2
variable {st : St}
theorem c_weightOf {t : TV} {h : Hp} {P : Int → Hp → Prop} (w : WF t) (R : RC t h) {c : Nat} (hc : c < mk t) (p : ∀ h', fr 9 13 h h' → P (wgt t c) h') : Cl shC mX3_weightOf [pR 28, pI (c : Int)] h P := by
  have hm := R.m
  have hpr := w.prr (nm t c)
  have hus := w.us (nm t c)
  have hl := plist_len (t := t) (z := bdI t (nm t c)) w.trr
  refine sX3_weightOf_0 (c_numberOf R c ?_)
  rw [nmI_at hc]
  refine c_paramsOf R _ (c_usesOf w R _ (fun h1 x1 => ⟨by unfold inR; omega, by unfold inR; omega, by unfold inR; omega, by unfold inR; omega, c_bodyOf (R.wk isW9 x1) _ (c_sizeOf w (R.wk isW9 x1) _ (fun h2 x2 => ⟨by unfold inR; omega, p h2 (x1.tr x2)⟩))⟩))
theorem cib_at {t : TV} {z : Int} (hc : cib t z) : 0 ≤ z ∧ z < (mk t : Int) := Classical.byContradiction fun q => by
  have := hc.1
  unfold kdI at this
  rw [if_neg q] at this
  exact absurd this (by decide)
theorem sim_weight (w : WS st) (z : Int) : Sim st mX8_weight mX9_weight [pI z] := by
  intro h g R M
  have hm := w.1.m
  by_cases hc : cib (sT st) z
  · have hz := cib_at hc
    have e : z = (z.toNat : Int) := by omega
    have h6 : kd (sT st) z.toNat = 6 := by
      have := hc.1
      rw [e, kdI_at (by omega)] at this
      exact this
    have hn := (w.1.nmr (s := z.toNat) (by omega) (by rw [h6]; decide)).2 h6
    have hb2 : bdI (sT st) (nm (sT st) z.toNat) = bd (sT st) (nm (sT st) z.toNat).toNat := if_pos hn
    have eN : nmI (sT st) z = nm (sT st) z.toNat := by
      rw [e, nmI_at (by omega)]
      rfl
    by_cases hb : bdI (sT st) (nm (sT st) z.toNat) = -4
    · refine ⟨-2, st, w, sX8_weight_0 (c_isCallInBody R.1 z ⟨fun _ => c_numberOf R.1 z (c_isMissing R.1 _ ⟨fun q => absurd (by rw [eN]; exact hb) (b2_0.mp q), fun _ => ⟨rfl, R⟩⟩), fun q => absurd hc (b2_0.mp q)⟩), sX9_weight_0 (m_isCall w.1 M.1 z ⟨fun _ => ⟨z.toNat, by omega, by omega, (nm (sT st) z.toNat).toNat, ?_, by omega, fun q => absurd ?_ q, fun _ => ⟨rfl, M⟩⟩, fun q => absurd hc (b2_0.mp q)⟩)⟩
      · rw [M.1.n (by omega)]; omega
      · rw [M.1.b (by omega), ← hb2]; exact hb
    · refine ⟨wgt (sT st) z.toNat, st, w, sX8_weight_0 (c_isCallInBody R.1 z ⟨fun _ => c_numberOf R.1 z (c_isMissing R.1 _ ⟨fun _ => ?_, fun q => absurd (b2_n0.mp q) (by rw [eN]; exact hb)⟩), fun q => absurd hc (b2_0.mp q)⟩), sX9_weight_0 (m_isCall w.1 M.1 z ⟨fun _ => ⟨z.toNat, by omega, by omega, (nm (sT st) z.toNat).toNat, ?_, by omega, fun _ => ?_, fun q => absurd q ?_⟩, fun q => absurd hc (b2_0.mp q)⟩)⟩
      · have := c_weightOf w.1 R.1 (c := z.toNat) (by omega) (P := fun q h' => q = wgt (sT st) z.toNat ∧ RelC st h') (fun h' f => ⟨rfl, R.rd f ⟨by decide, by decide⟩⟩)
        rw [← e] at this
        exact this
      · rw [M.1.n (by omega)]; omega
      · have := m_weightOf w.1 M.1 (c := z.toNat) (by omega) h6 hb (P := fun q h' => q = wgt (sT st) z.toNat ∧ RelM st h') (fun h' f => ⟨rfl, M.rd f ⟨by decide, by decide⟩⟩)
        rw [← e] at this
        exact this
      · rw [M.1.b (by omega), ← hb2]; exact hb
  · exact ⟨-1, st, w, sX8_weight_0 (c_isCallInBody R.1 z ⟨fun q => absurd (b2_n0.mp q) hc, fun _ => ⟨rfl, R⟩⟩), sX9_weight_0 (m_isCall w.1 M.1 z ⟨fun q => absurd (b2_n0.mp q) hc, fun _ => ⟨rfl, M⟩⟩)⟩
/-- what told answers -/
def toldR (st : St) (s : Nat) (k : Int) : Int :=
  if k = 0 then kd (sT st) s else if k = 1 then nm (sT st) s else if k < 5 then pt (sT st) s (k - 2).toNat else if k = 5 then up (sT st) s else if k = 6 then home (sT st) s else if k = 7 then (if kd (sT st) s = -1 then 0 else sN st s) else ((plist (sT st) s).length : Int)
theorem c_told {h : Hp} (R : RelC st h) (w : WS st) {s : Nat} (hs : s < mk (sT st)) {k : Int} (hk : 0 ≤ k ∧ k ≤ 8) : Cl shC mX8_told [pR 0, pI (s : Int), pI k] h (fun q h' => q = toldR st s k ∧ RelC st h') := by
  have hm := w.1.m
  unfold toldR
  refine sX8_told_0 (c_isMade R.1 s ⟨fun _ => ⟨fun e => c_kindOf R.1 s ⟨?_, R⟩, fun e => c_numberOf R.1 s ⟨?_, R⟩, fun e => ⟨by unfold inR; omega, c_partOf R.1 s _ ⟨?_, R⟩⟩, fun e => c_parentOf R.1 s ⟨?_, R⟩, fun e => c_routineOf R.1 s ⟨?_, R⟩, fun e => c_isStep R.1 s ⟨fun q => ⟨?_, R⟩, fun q => sX2_countOf_0 ⟨fun q => absurd q (by omega), fun _ => ⟨fun q => absurd q (by omega), fun _ => ⟨s, rfl, by omega, ?_, R⟩⟩⟩⟩, fun e => c_sizeOf w.1 R.1 s (fun h' f => ⟨?_, R.rd f ⟨by decide, by decide⟩⟩), fun e => absurd e (by omega)⟩, fun q => absurd (show 0 ≤ (s : Int) ∧ (s : Int) < (mk (sT st) : Int) by omega) (b2_0.mp q)⟩)
  · rw [if_pos e, kdI_at hs]
  · rw [if_neg (by omega), if_pos e, nmI_at hs]
  · rw [if_neg (by omega), if_neg (by omega), if_pos (by omega)]
    have := ptI_at (t := sT st) (s := s) (k := (k - 2).toNat) hs (by omega)
    rw [show (((k - 2).toNat : Nat) : Int) = k - 2 by omega] at this
    exact this
  · rw [if_neg (by omega), if_neg (by omega), if_neg (by omega), if_pos e, upI_at hs]
  · rw [if_neg (by omega), if_neg (by omega), if_neg (by omega), if_neg (by omega), if_pos e]
  · rw [if_neg (by omega), if_neg (by omega), if_neg (by omega), if_neg (by omega), if_neg (by omega), if_pos e, if_pos]
    have := b2_0.mp q
    rw [al_n] at this
    exact Classical.byContradiction fun q2 => this ⟨hs, q2⟩
  · rw [if_neg (by omega), if_neg (by omega), if_neg (by omega), if_neg (by omega), if_neg (by omega), if_pos e, if_neg]
    · exact R.2.1.1 s (by omega)
    · have := b2_n0.mp q
      rw [al_n] at this
      exact this.2
  · rw [if_neg (by omega), if_neg (by omega), if_neg (by omega), if_neg (by omega), if_neg (by omega), if_neg (by omega)]
theorem m_told {g : Hp} (M : RelM st g) (w : WS st) {s : Nat} (hs : s < mk (sT st)) {k : Int} (hk : 0 ≤ k ∧ k ≤ 8) : Cl shM mX9_told [pR 0, pI (s : Int), pI k] g (fun q g' => q = toldR st s k ∧ RelM st g') := by
  have hm := w.1.m
  have hr := M.1.1
  refine sX9_told_0 ?_
  rw [hr]
  refine ⟨by unfold inR; omega, m_in _ _ _ ⟨fun q => absurd (show (0 : Int) ≤ (s : Int) ∧ (s : Int) ≤ (mk (sT st) : Int) - 1 by omega) (b2_0.mp q), fun _ => m_in _ _ _ ⟨fun _ => ⟨s, rfl, by omega, ?_⟩, fun q => absurd hk (b2_0.mp q)⟩⟩⟩
  rw [M.1.k hs, M.1.n hs, M.1.u hs, M.2.1.1 s (by omega)]
  have hd := (w.1.2.2.2.2.1 s hs).2.2
  unfold toldR
  refine ⟨fun q => ⟨fun e => ⟨?_, M⟩, fun e => ⟨?_, M⟩, fun e => ⟨?_, M⟩, fun e => ?_, fun e => ⟨?_, M⟩, fun e => ?_, fun e => ?_⟩, fun q => ⟨fun e => ⟨fun e1 => ⟨?_, M⟩, fun e1 => ⟨fun e2 => ⟨?_, M⟩, fun e2 => ⟨?_, M⟩⟩⟩, fun e => ⟨?_, M⟩⟩⟩
  · rw [if_pos e]
  · rw [if_neg (by omega), if_pos e]
  · rw [if_neg (by omega), if_neg (by omega), if_neg (by omega), if_pos e]
  · refine m_homeOf w.1 M.1 (al_n.mpr ⟨hs, q⟩) ⟨?_, M⟩
    rw [if_neg (by omega), if_neg (by omega), if_neg (by omega), if_neg (by omega), if_pos e]
  · rw [if_neg (by omega), if_neg (by omega), if_neg (by omega), if_neg (by omega), if_neg (by omega), if_pos e, if_neg q]
  · refine m_goes' w.1 M.1 (al_n.mpr ⟨hs, q⟩) (fun g' f _ _ => ⟨?_, M.rd f ⟨by decide, by decide⟩⟩)
    rw [if_neg (by omega), if_neg (by omega), if_neg (by omega), if_neg (by omega), if_neg (by omega), if_neg (by omega)]
  · have hf := w.1.2.2.2.2.2.1 s hs q
    refine ⟨by unfold inR; omega, m_partsOf M.1 hs (w.1.fu hs q) ⟨fun c => ⟨?_, M⟩, fun c => ⟨by unfold inR; omega, by unfold inR; omega, by unfold inR; omega, 3 * s + (k - 2).toNat, by omega, by omega, ?_, M⟩⟩⟩
    · rw [if_neg (by omega), if_neg (by omega), if_pos (by omega)]
      exact ((hf.2.2.2 (k - 2).toNat (by omega)).2 (by omega)).symm
    · rw [if_neg (by omega), if_neg (by omega), if_pos (by omega)]
      exact M.1.p hs (by omega)
  · obtain ⟨d1, d2, d3⟩ := hd q
    rw [if_neg e, if_pos e1, d1]
  · obtain ⟨d1, d2, d3⟩ := hd q
    rw [if_neg e, if_neg e1]
    by_cases c5 : k < 5
    · rw [if_pos c5, d3 _ (by omega)]
    · by_cases c6 : k = 5
      · rw [if_neg c5, if_pos c6, d2]
      · rw [if_neg c5, if_neg c6, if_pos (by omega)]
        unfold home
        rw [if_neg (fun z => (al_n.mp z).2 q)]
  · rw [if_neg e, if_neg e1, if_neg (by omega), if_neg (by omega), if_neg (by omega)]
    by_cases c7 : k = 7
    · rw [if_pos c7, if_pos q]
    · rw [if_neg c7]
      unfold plist
      rw [if_neg (fun z => (al_n.mp z).2 q)]
      rfl
  · rw [if_pos e, q]
theorem sim_told (w : WS st) (z k : Int) : Sim st mX8_told mX9_told [pI z, pI k] := by
  intro h g R M
  have hm := w.1.m
  by_cases hz : 0 ≤ z ∧ z < (mk (sT st) : Int)
  · have e : z = (z.toNat : Int) := by omega
    by_cases hk : 0 ≤ k ∧ k ≤ 8
    · refine ⟨toldR st z.toNat k, st, w, ?_, ?_⟩
      · have := c_told R w (s := z.toNat) (by omega) hk
        rw [← e] at this
        exact this
      · have := m_told M w (s := z.toNat) (by omega) hk
        rw [← e] at this
        exact this
    · refine ⟨-1000000000, st, w, sX8_told_0 (c_isMade R.1 z ⟨fun _ => ⟨fun q => absurd q (by omega), fun q => absurd q (by omega), fun q => absurd q (by omega), fun q => absurd q (by omega), fun q => absurd q (by omega), fun q => absurd q (by omega), fun q => absurd q (by omega), fun _ => ⟨rfl, R⟩⟩, fun q => absurd hz (b2_0.mp q)⟩), sX9_told_0 ?_⟩
      rw [M.1.1]
      exact ⟨by unfold inR; omega, m_in _ _ _ ⟨fun _ => ⟨rfl, M⟩, fun _ => m_in _ _ _ ⟨fun q => absurd (b2_n0.mp q) hk, fun _ => ⟨rfl, M⟩⟩⟩⟩
  · refine ⟨-1000000000, st, w, sX8_told_0 (c_isMade R.1 z ⟨fun q => absurd (b2_n0.mp q) hz, fun _ => ⟨rfl, R⟩⟩), sX9_told_0 ?_⟩
    rw [M.1.1]
    exact ⟨by unfold inR; omega, m_in _ _ _ ⟨fun _ => ⟨rfl, M⟩, fun q => absurd (b2_n0.mp q) (by omega)⟩⟩
end SQ2
