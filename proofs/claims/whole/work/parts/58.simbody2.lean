/-! BOTH SIDES: a body is told, the walks -/
section SB2
variable {st : St}
theorem c_body2 {h : Hp} (w : WS st) (R : RelC st h) {r : Int} (hr : 0 ≤ r ∧ r < (rt (sT st) : Int)) {z : Int} (hz : z = -4 ∨ lo (sT st) z) : Cl1 shC mX4_hold [pR 38, pR 2] h (fun _ h1 => Cl shC mX4_keepHeld [pR 38] h1 (fun _ h2 => Cl shC mX1_setBody [pR 1, pI r, pI z] h2 (fun _ h3 => Cl shC mX1_usesOf [pR 1, pI r] h3 (fun q h' => q = uses (tw (sT st) 5 r.toNat z) r ∧ RelC (tw (sT st) 5 r.toNat z, sN st, sW st, pushU (sU st) (sT st), sQ st, sL st) h')))) := by
  refine c_holdK R.1 R.2.2 (fun h3 k3 cp3 => c_setBody (k3.rc R.1) r z (fun h4 f4 R4 => ?_))
  rw [if_pos hr] at R4
  refine c_usesOf (wf_bd w.1 hz) R4 r (fun h5 f5 => ⟨rfl, R4.kp f5 (Or.inl (by decide)), ?_, (cp3.fw f4 (Or.inl (by decide))).fw f5 (Or.inl (by decide))⟩)
  have c3 : CX (tw (sT st) 5 r.toNat z, sN st, sW st, pushU (sU st) (sT st), sQ st, sL st) h3 := k3.cx (st := st) R.2.1
  exact (c3.fw f4 (Or.inl (by decide))).fw f5 (Or.inl (by decide))
theorem m_body2 {g : Hp} (w : WS st) (M : RelM st g) {r : Int} (hr : 0 ≤ r ∧ r < (rt (sT st) : Int)) {z : Int} (hz : z = -4 ∨ lo (sT st) z) : Cl shM mX9_keep [pR 0] g (fun _ g1 => ∃ k : Nat, r = (k : Int) ∧ k < 10 ∧ Cl shM mX9_uses [pR 0, pI r] (hA g1 7 k z) (fun q g' => q = uses (tw (sT st) 5 r.toNat z) r ∧ RelM (tw (sT st) 5 r.toNat z, sN st, sW st, pushU (sU st) (sT st), sQ st, sL st) g')) := by
  have hm := w.1.m
  refine m_keep M.1 M.2.2 w.2.1 (fun u hu => (w.2.2.1 u hu).1.m) (fun g2 f2 M2 => ⟨r.toNat, by omega, by omega, ?_⟩)
  have R2 : RM (sT st) g2 := by
    obtain ⟨r1, r2, r3, r4, r5, r6, r7⟩ := M.1
    have e : ∀ i, i < 6 → g2.1 (ρM i) = g.1 (ρM i) := fun i hi => f2.1 _ (Or.inl (by rcases (by omega : i = 0 ∨ i = 1 ∨ i = 2 ∨ i = 3 ∨ i = 4 ∨ i = 5) with rfl | rfl | rfl | rfl | rfl | rfl <;> decide))
    refine ⟨(f2.2.1 0 0 (by omega)).trans r1, (f2.2.1 0 6 (by omega)).trans r2, r3, r4, fun s hs => ?_, fun j hj => ?_, fun q hq => ?_⟩
    · rw [e 0 (by decide), e 1 (by decide), e 3 (by decide)]; exact r5 s hs
    · rw [e 2 (by decide)]; exact r6 j hj
    · rw [e 4 (by decide), e 5 (by decide)]; exact r7 q hq
  have R3 : RM (tw (sT st) 5 r.toNat z) (hA g2 7 r.toNat z) := R2.wr (ro := 5) (by decide) r.toNat z
  refine m_uses (wf_bd w.1 hz) R3 hr (fun g3 f3 => ⟨rfl, R3.kp f3 (by decide), ?_, ?_⟩)
  · have c0 : MX (tw (sT st) 5 r.toNat z, sN st, sW st, pushU (sU st) (sT st), sQ st, sL st) g := M.2.1
    refine c0.kp (fun s _ => ?_) ?_ ?_ (fun k hk => ?_)
    · rw [f3.a (by decide)]
      exact congrFun (f2.1 5 (by decide)) s
    · rw [f3.a (by decide)]
      exact f2.1 8 (by decide)
    · rw [f3.a (by decide)]
      exact f2.1 27 (by decide)
    · rw [f3.2]
      exact f2.2.1 0 k (by omega)
  · exact M2.kp (by rw [f3.2]; rfl) (f3.a (by decide)) (f3.a (by decide)) (f3.a (by decide))
theorem sim_body (w : WS st) (r z : Int) : Sim1 st mX8_body mX9_body [pI r, pI z] := by
  intro h g R M
  by_cases hr : 0 ≤ r ∧ r < (rt (sT st) : Int)
  · by_cases h1 : z = -1
    · exact ⟨_, _, ws_push w (wf_bd w.1 (r := r.toNat) (z := -4) (Or.inl rfl)) rfl rfl (fun _ => rfl), sX8_body_0 (c_isRoutine R.1 r ⟨fun q => absurd hr (b2_0.mp q), fun _ => ⟨fun _ => c_body2 w R hr (Or.inl rfl), fun q => absurd h1 q⟩⟩), sX9_body_0 (m_isRoutine M.1 r ⟨fun q => absurd hr (b2_0.mp q), fun _ => ⟨fun _ => m_body2 w M hr (Or.inl rfl), fun q => absurd h1 q⟩⟩)⟩
    · by_cases hl : lo (sT st) z
      · exact ⟨_, _, ws_push w (wf_bd w.1 (r := r.toNat) (z := z) (Or.inr hl)) rfl rfl (fun _ => rfl), sX8_body_0 (c_isRoutine R.1 r ⟨fun q => absurd hr (b2_0.mp q), fun _ => ⟨fun q => absurd q h1, fun _ => c_isLoose R.1 z ⟨fun _ => c_body2 w R hr (Or.inr hl), fun q => absurd hl (b2_0.mp q)⟩⟩⟩), sX9_body_0 (m_isRoutine M.1 r ⟨fun q => absurd hr (b2_0.mp q), fun _ => ⟨fun q => absurd q h1, fun _ => m_isLoose w.1 M.1 z ⟨fun _ => m_body2 w M hr (Or.inr hl), fun q => absurd hl (b2_0.mp q)⟩⟩⟩)⟩
      · exact ⟨-1, st, w, sX8_body_0 (c_isRoutine R.1 r ⟨fun q => absurd hr (b2_0.mp q), fun _ => ⟨fun q => absurd q h1, fun _ => c_isLoose R.1 z ⟨fun q => absurd (b2_n0.mp q) hl, fun _ => ⟨rfl, R⟩⟩⟩⟩), sX9_body_0 (m_isRoutine M.1 r ⟨fun q => absurd hr (b2_0.mp q), fun _ => ⟨fun q => absurd q h1, fun _ => m_isLoose w.1 M.1 z ⟨fun q => absurd (b2_n0.mp q) hl, fun _ => ⟨rfl, M⟩⟩⟩⟩)⟩
  · exact ⟨-1, st, w, sX8_body_0 (c_isRoutine R.1 r ⟨fun _ => ⟨rfl, R⟩, fun q => absurd (b2_n0.mp q) hr⟩), sX9_body_0 (m_isRoutine M.1 r ⟨fun _ => ⟨rfl, M⟩, fun q => absurd (b2_n0.mp q) hr⟩)⟩
end SB2
