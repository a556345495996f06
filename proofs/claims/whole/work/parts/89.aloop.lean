/-! AHEAD: the class works until nothing holds -/
section AL
variable {t : TV} {r : Int}
/-- the first step that something holds for -/
def ftc (t : TV) (r : Int) : List (Nat × Nat) → Int
  | [] => -4
  | q :: D => if hld t r q.1 = 0 then ftc t r D else (q.1 : Int)
theorem ftc_in : ∀ {D : List (Nat × Nat)}, ftc t r D = -4 ∨ ∃ q ∈ D, ftc t r D = (q.1 : Int) ∧ hld t r q.1 ≠ 0
  | [] => Or.inl rfl
  | q :: D => by
    unfold ftc
    by_cases c : hld t r q.1 = 0
    · rw [if_pos c]
      rcases ftc_in (D := D) with e | ⟨x, hx, e⟩
      · exact Or.inl e
      · exact Or.inr ⟨x, List.mem_cons_of_mem _ hx, e⟩
    · rw [if_neg c]
      exact Or.inr ⟨q, List.mem_cons_self, rfl, c⟩
abbrev ftb (t : TV) (r : Int) : Int := ftc t r (plist t (bdI t r))
noncomputable def aN (t : TV) (r : Int) : Nat → Option TV
  | 0 => some t
  | n + 1 => if ftb t r = -4 then some t else if dC (ful t r (ftb t r).toNat) = true then none else aN (wrk t r (ftb t r).toNat) r n
theorem ftb_at (w : WF t) (h : ftb t r ≠ -4) : ∃ s : Nat, ftb t r = (s : Int) ∧ s < mk t ∧ kd t s ≠ -1 ∧ hld t r s ≠ 0 := by
  rcases ftc_in (t := t) (r := r) (D := plist t (bdI t r)) with e | ⟨q, hq, e, hh⟩
  · exact absurd e h
  · have := plist_at w hq
    exact ⟨q.1, e, this.1, this.2, hh⟩
/-- what all the working ahead keeps -/
def KQ (t U : TV) : Prop := WF U ∧ mk t ≤ mk U ∧ rt U = rt t ∧ (∀ r, pr U r = pr t r) ∧ (∀ r, bd U r = -4 ↔ bd t r = -4) ∧ ac U ≤ ac t
theorem KQ.rf (w : WF t) : KQ t t := ⟨w, Nat.le_refl _, rfl, fun _ => rfl, fun _ => Iff.rfl, Nat.le_refl _⟩
theorem KQ.st {U V : TV} (x : KQ t U) (y : KP U V) : KQ t V := by
  obtain ⟨_, a2, a3, a4, a5, a6⟩ := x
  obtain ⟨b1, b2, b3, b4, b5, b6⟩ := y
  exact ⟨b1, Nat.le_trans a2 b2, b3.trans a3, fun r => (b4 r).trans (a4 r), fun r => (b5 r).trans (a5 r), by omega⟩
section ALC
variable {h : Hp} {P : Int → Hp → Prop}
theorem c_firstToChange (w : WF t) (R : RC t h) (p0 : ftb t r = -4 → ∀ h', aw h h' → RC t h' → h'.2.1 30 5 = h.2.1 30 5 → P (-4) h') (p1 : ∀ s : Nat, ftb t r = (s : Int) → ∀ h', aw h h' → RC t h' → h'.2.1 30 5 = h.2.1 30 5 → FD t r s h' → P (s : Int) h') : Cl shC mX7_firstToChange [pR 30, pI r] h P := by
  have hm := R.m
  refine sX7_firstToChange_0 (c_bodyOf R _ (c_over isW14 R _ w.trr (fun h1 f1 hs1 hD1 => ?_)))
  have R1 := R.wk isW14 f1
  refine c_tally w R1 (z := bdI t r) hs1 hD1 (fun h2 f2 ta => ?_)
  have R2 := R1.kp f2 (Or.inl (by decide))
  have x2 : aw h h2 := (aw.rf.fr f1 (Or.inl ⟨by decide, by decide⟩)).fr f2 (Or.inr ⟨by decide, by decide⟩)
  have hs2 : h2.2.1 14 4 = ((plist t (bdI t r)).length : Int) := by rw [f2.i (by decide)]; exact hs1
  have hD2 : ∀ (i : Nat) (q : Nat × Nat), (plist t (bdI t r))[i]? = some q → h2.1 15 i = (q.1 : Int) := fun i q hq => by rw [f2.a (by decide)]; exact (hD1 i q hq).1
  have e5 : h2.2.1 30 5 = h.2.1 30 5 := by rw [f2.i (by decide), f1.i (by decide)]
  have hlen := plist_len (t := t) (z := bdI t r) w.trr
  have key : ∀ (D2 D1 : List (Nat × Nat)) (h3 : Hp), D1 ++ D2 = plist t (bdI t r) → fr 30 35 h2 h3 → h3.2.1 30 5 = h2.2.1 30 5 → ftb t r = ftc t r D2 → Ok shC 0 0 mX7_firstToChange 28 [some (pR 30), some (pI r), some (pI (D1.length : Int))] [] h3 P := by
    intro D2
    induction D2 with
    | nil =>
      intro D1 h3 he x e35 e
      rw [List.append_nil] at he
      refine sX7_firstToChange_28 ?_
      rw [x.i (by decide), hs2]
      exact ⟨fun _ => p0 e h3 (x2.fr x (Or.inr ⟨by decide, by decide⟩)) (R2.kp x (Or.inl (by decide))) (e35.trans e5), fun c => absurd (by rw [← he]; exact Int.le_refl _) c⟩
    | cons q D2 ih =>
      intro D1 h3 he x e35 e
      have hl : D1.length < (plist t (bdI t r)).length := by rw [← he]; simp
      have hq : (plist t (bdI t r))[D1.length]? = some q := by rw [← he]; simp
      have hqm := plist_at w (List.mem_of_getElem? hq)
      have R3 := R2.kp x (Or.inl (by decide))
      have hlen2 : ((D1 ++ [q]).length : Int) = (D1.length : Int) + 1 := by simp
      have nx := fun h4 => ih (D1 ++ [q]) h4 (by rw [← he]; simp)
      rw [hlen2] at nx
      have e15 : h3.1 15 D1.length = (q.1 : Int) := by rw [x.a (by decide)]; exact hD2 _ _ hq
      refine sX7_firstToChange_28 ?_
      rw [x.i (by decide), hs2]
      refine ⟨fun c => absurd c (by omega), fun _ => ⟨D1.length, rfl, by omega, c_paramsOf R3 _ ?_⟩⟩
      rw [e15]
      have ta3 : TA t (plist t (bdI t r)) h3 := fun k hk => by
        have := ta k hk
        rw [x.a (by decide), x.a (by decide)]
        exact this
      refine c_canChange w R3 ta3 hqm.1 hqm.2 (fun hh h4 x4 e4 => ⟨fun _ => ⟨by unfold inR; omega, nx h4 (x.tr x4) (e4.trans e35) ?_⟩, fun c => absurd rfl c⟩) (fun hh h4 x4 e4 fd => ⟨fun c => absurd c (by decide), fun _ => ?_⟩)
      · rw [e, ftc, if_pos hh]
      · have e45 : h4.1 15 D1.length = (q.1 : Int) := by rw [x4.a (by decide)]; exact e15
        rw [e45]
        refine p1 q.1 (e.trans ?_) h4 (x2.fr (x.tr x4) (Or.inr ⟨by decide, by decide⟩)) (R3.kp x4 (Or.inl (by decide))) ((e4.trans e35).trans e5) fd
        rw [ftc, if_neg hh]
  exact key _ [] h2 rfl fr.rf rfl rfl
theorem c_workAhead (w : WF t) (R : RC t h) (p1 : ∀ U, aN t r 600 = some U → KQ t U → ∀ h', aw h h' → RC U h' → P 1 h') (p0 : aN t r 600 = none → ∀ h', aw h h' → P 0 h') : Cl shC mX7_workAhead [pR 30, pI r] h P := by
  have key : ∀ (n v3 : Nat) (U : TV) (h1 : Hp) (z : Int), n + v3 = 600 → aw h h1 → RC U h1 → h1.2.1 30 5 = 0 → KQ t U → ftb U r = z → (∀ s : Nat, z = (s : Int) → FD U r s h1) → aN U r n = aN t r 600 → Ok shC 0 0 mX7_workAhead 13 [some (pR 30), some (pI r), some (pI z), some (pI (v3 : Int))] [] h1 P := by
    intro n
    induction n with
    | zero =>
      intro v3 U h1 z hv x RU h5 K hz fd e
      have e : some U = aN t r 600 := e
      exact sX7_workAhead_13 ⟨fun _ => ⟨fun c => absurd h5 c, fun _ => p1 U e.symm K h1 x RU⟩, fun c => absurd (by omega) c⟩
    | succ n ih =>
      intro v3 U h1 z hv x RU h5 K hz fd e
      refine sX7_workAhead_13 ⟨fun c => absurd c (by omega), fun _ => ⟨fun c => ⟨fun c2 => absurd h5 c2, fun _ => ?_⟩, fun c => ⟨fun c2 => absurd h5 c2, fun _ => ?_⟩⟩⟩
      · rw [aN, if_pos (hz.trans c)] at e
        exact p1 U e.symm K h1 x RU
      · have hne : ftb U r ≠ -4 := by rw [hz]; exact c
        rw [aN, if_neg hne] at e
        obtain ⟨s, es, hs, hks, hh⟩ := ftb_at K.1 hne
        have ezs : z = (s : Int) := hz.symm.trans es
        subst ezs
        have ets : (ftb U r).toNat = s := by omega
        rw [ets] at e
        refine c_work K.1 RU hs hks (fd s rfl) h5 hh (fun nf h2 x2 R2 => ?_) (fun f h2 x2 e5 => ?_)
        · rw [if_neg (fun q => nf (dC_iff.mp q))] at e
          have K2 := K.st (kp_wrk K.1 hs hks hh nf)
          have e25 : h2.2.1 30 5 = 0 := by rw [x2.i (by decide)]; exact h5
          have x02 : aw h h2 := x.fr x2 (Or.inl ⟨by decide, by decide⟩)
          have hv' : (((v3 + 1 : Nat)) : Int) = (v3 : Int) + 1 := by omega
          have nx := fun h3 z => ih (v3 + 1) (wrk U r s) h3 z (by omega)
          rw [hv'] at nx
          refine ⟨fun _ => c_firstToChange K2.1 R2 (fun e4 h3 x3 R3 e35 => ⟨by unfold inR; omega, ?_⟩) (fun s2 e4 h3 x3 R3 e35 fd2 => ⟨by unfold inR; omega, ?_⟩), fun c => absurd e25 c⟩
          · exact nx h3 (-4) (x02.tr x3) R3 (e35.trans e25) K2 e4 (fun s hs => by omega) e
          · exact nx h3 (s2 : Int) (x02.tr x3) R3 (e35.trans e25) K2 e4 (fun s hs => by
              have : s2 = s := by omega
              rw [← this]
              exact fd2) e
        · rw [if_pos (dC_t f)] at e
          have fin := p0 e.symm h2 (x.tr x2)
          refine ⟨fun c => absurd (e5.symm.trans c) (by decide), fun c => ⟨by unfold inR; omega, ?_⟩⟩
          exact sX7_workAhead_13 ⟨fun _ => ⟨fun _ => fin, fun c2 => absurd c2 c⟩, fun _ => ⟨fun _ => ⟨fun _ => fin, fun c2 => absurd c2 c⟩, fun c2 => absurd rfl c2⟩⟩
  have RI : RC t (hI h 30 5 0) := R.kp (fr.rf.I (lo := 30) (hi := 30) ⟨by decide, by decide⟩) (Or.inl (by decide))
  have xI : aw h (hI h 30 5 0) := aw.rf.I _ _
  have e0 : (hI h 30 5 0).2.1 30 5 = 0 := by rw [hI_at, if_pos ⟨rfl, rfl⟩]
  refine sX7_workAhead_0 (c_firstToChange w RI (fun e4 h1 x1 R1 e5 => ?_) (fun s e4 h1 x1 R1 e5 fd => ?_))
  · exact key 600 0 t h1 (-4) rfl (xI.tr x1) R1 (e5.trans e0) (KQ.rf w) e4 (fun s hs => by omega) rfl
  · exact key 600 0 t h1 (s : Int) rfl (xI.tr x1) R1 (e5.trans e0) (KQ.rf w) e4 (fun s2 hs => by
      have : s = s2 := by omega
      rw [← this]
      exact fd) rfl
end ALC
end AL
