/-! THE CLASS: Rows.isStep and Code's questions -/
section CQ
variable {t : TV} {h : Hp} {P : Int → Hp → Prop}
theorem c_Rows_isStep (R : RC t h) (z : Int) (p : P (b2 (al t z)) h) : Cl shC mX5_isStep [pR 2, pI z] h P := by
  have hm := R.m
  refine sX5_isStep_0 ?_
  rw [R.1]
  refine ⟨fun c1 => ?_, fun c1 => ⟨fun c2 => ?_, fun c2 => exI (by omega) (by omega) ?_⟩⟩
  · rwa [b2, if_neg (by unfold al; omega)] at p
  · rwa [b2, if_neg (by unfold al; omega)] at p
  · rw [R.k (by omega)]
    refine ⟨fun c3 => ?_, fun c3 => ?_⟩
    · rwa [b2, if_neg (by unfold al; omega)] at p
    · rwa [b2, if_pos (by unfold al; omega)] at p
theorem c_isMade (R : RC t h) (z : Int) (p : P (b2 (0 ≤ z ∧ z < (mk t : Int))) h) : Cl shC mX1_isMade [pR 1, pI z] h P := by
  refine sX1_isMade_0 ?_
  rw [R.1]
  refine ⟨fun c1 => ?_, fun c1 => ⟨fun c2 => ?_, fun c2 => ?_⟩⟩
  · rwa [b2, if_neg (by omega)] at p
  · rwa [b2, if_neg (by omega)] at p
  · rwa [b2, if_pos (by omega)] at p
theorem b2_01 (p : Prop) [Decidable p] : b2 p = 0 ∨ b2 p = 1 := by
  by_cases q : p
  · exact Or.inr (if_pos q)
  · exact Or.inl (if_neg q)
theorem b2_0 {p : Prop} [Decidable p] : b2 p = 0 ↔ ¬ p := by
  by_cases q : p
  · simp [b2, q]
  · simp [b2, q]
theorem b2_n0 {p : Prop} [Decidable p] : ¬ b2 p = 0 ↔ p := by
  by_cases q : p
  · simp [b2, q]
  · simp [b2, q]
theorem c_isStep (R : RC t h) (z : Int) (p : P (b2 (al t z)) h) : Cl shC mX1_isStep [pR 1, pI z] h P :=
  sX1_isStep_0 (c_Rows_isStep R z ⟨b2_01 _, p⟩)
theorem c_isRoutine (R : RC t h) (z : Int) (p : P (b2 (0 ≤ z ∧ z < (rt t : Int))) h) : Cl shC mX1_isRoutine [pR 1, pI z] h P := by
  refine sX1_isRoutine_0 ?_
  rw [R.2.1]
  refine ⟨fun c1 => ?_, fun c1 => ⟨fun c2 => ?_, fun c2 => ?_⟩⟩
  · rwa [b2, if_neg (by omega)] at p
  · rwa [b2, if_neg (by omega)] at p
  · rwa [b2, if_pos (by omega)] at p
theorem c_kindOf (R : RC t h) (z : Int) (p : P (kdI t z) h) : Cl shC mX1_kindOf [pR 1, pI z] h P := by
  have hm := R.m
  refine sX1_kindOf_0 ?_
  rw [R.1]
  refine ⟨fun c1 => ?_, fun c1 => ⟨fun c2 => ?_, fun c2 => exI (by omega) (by omega) ?_⟩⟩
  · rwa [kdI, if_neg (by omega)] at p
  · rwa [kdI, if_neg (by omega)] at p
  · rw [R.k (by omega)]
    rwa [kdI, if_pos (by omega)] at p
theorem c_numberOf (R : RC t h) (z : Int) (p : P (nmI t z) h) : Cl shC mX1_numberOf [pR 1, pI z] h P := by
  have hm := R.m
  refine sX1_numberOf_0 ?_
  rw [R.1]
  refine ⟨fun c1 => ?_, fun c1 => ⟨fun c2 => ?_, fun c2 => exI (by omega) (by omega) ?_⟩⟩
  · rwa [nmI, if_neg (by omega)] at p
  · rwa [nmI, if_neg (by omega)] at p
  · rw [R.n (by omega)]
    rwa [nmI, if_pos (by omega)] at p
theorem c_parentOf (R : RC t h) (z : Int) (p : P (upI t z) h) : Cl shC mX1_parentOf [pR 1, pI z] h P := by
  have hm := R.m
  refine sX1_parentOf_0 ?_
  rw [R.1]
  refine ⟨fun c1 => ?_, fun c1 => ⟨fun c2 => ?_, fun c2 => exI (by omega) (by omega) ?_⟩⟩
  · rwa [upI, if_neg (by omega)] at p
  · rwa [upI, if_neg (by omega)] at p
  · rw [R.u (by omega)]
    rwa [upI, if_pos (by omega)] at p
theorem c_partOf (R : RC t h) (z k : Int) (p : P (ptI t z k) h) : Cl shC mX1_partOf [pR 1, pI z, pI k] h P := by
  have hm := R.m
  refine sX1_partOf_0 ?_
  rw [R.1]
  refine ⟨fun c1 => ?_, fun c1 => ⟨fun c2 => ?_, fun c2 => ⟨fun c3 => ?_, fun c3 => ⟨fun c4 => ⟨by unfold inR; omega, by unfold inR; omega, exI (by omega) (by omega) ?_⟩, fun c4 => ?_⟩⟩⟩⟩
  · rwa [ptI, if_neg (by omega)] at p
  · rwa [ptI, if_neg (by omega)] at p
  · rwa [ptI, if_neg (by omega)] at p
  · rw [show (z * 3 + k).toNat = 3 * z.toNat + k.toNat by omega, R.p (by omega) (by omega)]
    rwa [ptI, if_pos (by omega)] at p
  · rwa [ptI, if_neg (by omega)] at p
theorem c_paramsOf (R : RC t h) (z : Int) (p : P (prI t z) h) : Cl shC mX1_paramsOf [pR 1, pI z] h P := by
  have hm := R.m
  refine sX1_paramsOf_0 ?_
  rw [R.2.1]
  refine ⟨fun c1 => ?_, fun c1 => ⟨fun c2 => ?_, fun c2 => exI (by omega) (by omega) ?_⟩⟩
  · rwa [prI, if_neg (by omega)] at p
  · rwa [prI, if_neg (by omega)] at p
  · rw [R.q (by omega)]
    rwa [prI, if_pos (by omega)] at p
theorem c_bodyOf (R : RC t h) (z : Int) (p : P (bdI t z) h) : Cl shC mX1_bodyOf [pR 1, pI z] h P := by
  have hm := R.m
  refine sX1_bodyOf_0 ?_
  rw [R.2.1]
  refine ⟨fun c1 => ?_, fun c1 => ⟨fun c2 => ?_, fun c2 => exI (by omega) (by omega) ?_⟩⟩
  · rwa [bdI, if_neg (by omega)] at p
  · rwa [bdI, if_neg (by omega)] at p
  · rw [R.b (by omega)]
    rwa [bdI, if_pos (by omega)] at p
theorem c_isMissing (R : RC t h) (z : Int) (p : P (b2 (bdI t z = -4)) h) : Cl shC mX1_isMissing [pR 1, pI z] h P := by
  refine sX1_isMissing_0 (c_bodyOf R z ⟨fun c => ?_, fun c => ?_⟩)
  · rwa [b2, if_neg c] at p
  · rwa [b2, if_pos c] at p
theorem c_ownerOf (R : RC t h) (z : Int) (p : P (ow t z) h) : Cl shC mX1_ownerOf [pR 1, pI z] h P := by
  have hm := R.m
  have key : ∀ n i : Nat, i + n = rt t → P (owF t z n i) h → Ok shC 0 0 mX1_ownerOf 2 [some (pR 1), some (pI z), some (pI (i : Int))] [] h P := by
    intro n
    induction n with
    | zero =>
      intro i hi hp
      refine sX1_ownerOf_2 ?_
      rw [R.2.1]
      exact ⟨fun _ => hp, fun c => absurd (show (rt t : Int) ≤ i by omega) c⟩
    | succ n ih =>
      intro i hi hp
      refine sX1_ownerOf_2 ?_
      rw [R.2.1]
      refine ⟨fun c => absurd c (by omega), fun _ => ⟨i, rfl, by omega, ?_⟩⟩
      rw [R.b (by omega)]
      refine ⟨fun c => ⟨by unfold inR; omega, ?_⟩, fun c => ?_⟩
      · have := ih (i + 1) (by omega) (by rwa [owF, if_neg c] at hp)
        exact this
      · rwa [owF, if_pos c] at hp
  exact sX1_ownerOf_0 (key (rt t) 0 (by omega) p)
theorem c_isLoose (R : RC t h) (z : Int) (p : P (b2 (lo t z)) h) : Cl shC mX1_isLoose [pR 1, pI z] h P := by
  have hm := R.m
  refine sX1_isLoose_0 (c_Rows_isStep R z ⟨fun c => ?_, fun c => ?_⟩)
  · rw [b2_0] at c
    rwa [b2, if_neg (fun q => c q.1)] at p
  · rw [b2_n0] at c
    refine exI (by omega) (by omega) ?_
    have hu : upI t z = up t z.toNat := if_pos ⟨c.1, c.2.1⟩
    rw [R.u (by omega), ← hu]
    refine ⟨fun c2 => ?_, fun c2 => c_ownerOf R z ⟨fun c3 => ?_, fun c3 => ?_⟩⟩
    · rwa [b2, if_neg (fun q => c2 q.2.1)] at p
    · rwa [b2, if_neg (fun q => c3 q.2.2)] at p
    · rwa [b2, if_pos ⟨c, c2, c3⟩] at p
theorem c_routineOf (R : RC t h) (z : Int) (p : P (home t z) h) : Cl shC mX1_routineOf [pR 1, pI z] h P := by
  have key : ∀ (n i : Nat) (x : Int), i + n = 40 → P (ow t (root t n x)) h → Ok shC 0 0 mX1_routineOf 15 [some (pR 1), none, some (pI x), some (pI (i : Int))] [] h P := by
    intro n
    induction n with
    | zero =>
      intro i x hi hp
      refine sX1_routineOf_15 ⟨fun _ => c_ownerOf R x hp, fun c => absurd (show (40 : Int) ≤ i by omega) c⟩
    | succ n ih =>
      intro i x hi hp
      refine sX1_routineOf_15 ⟨fun c => absurd c (by omega), fun _ => c_parentOf R x ⟨fun c => c_ownerOf R x ?_, fun c => c_parentOf R x ⟨by unfold inR; omega, ?_⟩⟩⟩
      · rwa [root, if_pos c] at hp
      · rw [root, if_neg c] at hp
        exact ih (i + 1) _ (by omega) hp
  refine sX1_routineOf_0 (c_isStep R z ⟨fun c => ?_, fun c => ?_⟩)
  · rw [b2_n0] at c
    rw [home, if_pos c] at p
    exact key 40 0 z rfl p
  · rw [b2_0] at c
    rwa [home, if_neg c] at p
theorem c_isCallInBody (R : RC t h) (z : Int) (p : P (b2 (cib t z)) h) : Cl shC mX1_isCallInBody [pR 1, pI z] h P := by
  refine sX1_isCallInBody_0 (c_kindOf R z ⟨fun c => ?_, fun c => c_routineOf R z ⟨fun c2 => ?_, fun c2 => ?_⟩⟩)
  · rwa [b2, if_neg (fun q => c q.1)] at p
  · rwa [b2, if_neg (fun q => q.2 c2)] at p
  · rwa [b2, if_pos ⟨c, c2⟩] at p
theorem c_stepsAbove (R : RC t h) (z : Int) (p : P (above t 40 (upI t z)) h) : Cl shC mX1_stepsAbove [pR 1, pI z] h P := by
  have key : ∀ (n i : Nat) (x : Int), i + n = 40 → P ((i + above t n x : Nat) : Int) h → Ok shC 0 0 mX1_stepsAbove 8 [some (pR 1), none, some (pI (i : Int)), some (pI x)] [] h P := by
    intro n
    induction n with
    | zero =>
      intro i x hi hp
      refine sX1_stepsAbove_8 ⟨fun _ => hp, fun _ => ⟨fun _ => hp, fun c => absurd (show (40 : Int) ≤ i by omega) c⟩⟩
    | succ n ih =>
      intro i x hi hp
      refine sX1_stepsAbove_8 ⟨fun c => ?_, fun c => ⟨fun c2 => absurd c2 (by omega), fun _ => ⟨by unfold inR; omega, c_parentOf R x ?_⟩⟩⟩
      · rwa [above, if_pos c] at hp
      · rw [above, if_neg c] at hp
        exact ih (i + 1) _ (by omega) (by rwa [show i + 1 + above t n (upI t x) = i + (above t n (upI t x) + 1) by omega])
  exact sX1_stepsAbove_0 (c_parentOf R z (key 40 0 _ rfl (by rwa [Nat.zero_add])))
/-- how many i below n -/
def cnt (q : Nat → Bool) : Nat → Nat
  | 0 => 0
  | n + 1 => cnt q n + (if q n then 1 else 0)
theorem cnt_le (q : Nat → Bool) : ∀ n, cnt q n ≤ n
  | 0 => Nat.le_refl _
  | n + 1 => by
    have := cnt_le q n
    unfold cnt
    split <;> omega
theorem c_goneSteps (R : RC t h) (p : P (cnt (fun s => decide (kd t s = -1)) (mk t)) h) : Cl shC mX1_goneSteps [pR 1] h P := by
  have hm := R.m
  have key : ∀ n i : Nat, i + n = mk t → Ok shC 0 0 mX1_goneSteps 4 [some (pR 1), some (pI (cnt (fun s => decide (kd t s = -1)) i)), some (pI (i : Int))] [] h P := by
    intro n
    induction n with
    | zero =>
      intro i hi
      refine sX1_goneSteps_4 ?_
      rw [R.1]
      have e : i = mk t := hi
      subst e
      exact ⟨fun _ => p, fun c => absurd (Int.le_refl _) c⟩
    | succ n ih =>
      intro i hi
      have hc := cnt_le (fun s => decide (kd t s = -1)) i
      have := ih (i + 1) (by omega)
      unfold cnt at this
      refine sX1_goneSteps_4 ?_
      rw [R.1]
      refine ⟨fun c => absurd c (by omega), fun _ => c_isStep R i ⟨fun c => ⟨by unfold inR; omega, by unfold inR; omega, ?_⟩, fun c => ⟨by unfold inR; omega, by unfold inR; omega, ?_⟩⟩⟩
      · rw [b2_0] at c
        have hk : kd t i = -1 := by
          unfold al at c
          simp only [Int.toNat_natCast] at c
          omega
        simp only [hk, decide_true, if_true] at this
        exact this
      · rw [b2_n0] at c
        have hk : ¬ kd t i = -1 := by
          have := c.2.2
          simpa using this
        simp only [hk, decide_false, Bool.false_eq_true, if_false] at this
        exact this
  exact sX1_goneSteps_0 (key (mk t) 0 (by omega))
theorem c_looseSteps (R : RC t h) (p : P (cnt (fun s => decide (lo t s)) (mk t)) h) : Cl shC mX1_looseSteps [pR 1] h P := by
  have hm := R.m
  have key : ∀ n i : Nat, i + n = mk t → Ok shC 0 0 mX1_looseSteps 4 [some (pR 1), some (pI (cnt (fun s => decide (lo t s)) i)), some (pI (i : Int))] [] h P := by
    intro n
    induction n with
    | zero =>
      intro i hi
      refine sX1_looseSteps_4 ?_
      rw [R.1]
      have e : i = mk t := hi
      subst e
      exact ⟨fun _ => p, fun c => absurd (Int.le_refl _) c⟩
    | succ n ih =>
      intro i hi
      have hc := cnt_le (fun s => decide (lo t s)) i
      have := ih (i + 1) (by omega)
      unfold cnt at this
      refine sX1_looseSteps_4 ?_
      rw [R.1]
      refine ⟨fun c => absurd c (by omega), fun _ => c_isLoose R i ⟨fun c => ⟨by unfold inR; omega, by unfold inR; omega, ?_⟩, fun c => ⟨by unfold inR; omega, by unfold inR; omega, ?_⟩⟩⟩
      · rw [b2_0] at c
        rw [decide_eq_false c] at this
        exact this
      · rw [b2_n0] at c
        rw [decide_eq_true c] at this
        exact this
  exact sX1_looseSteps_0 (key (mk t) 0 (by omega))
theorem c_missingRoutines (R : RC t h) (p : P (cnt (fun r => decide (bd t r = -4)) (rt t)) h) : Cl shC mX1_missingRoutines [pR 1] h P := by
  have hm := R.m
  have key : ∀ n i : Nat, i + n = rt t → Ok shC 0 0 mX1_missingRoutines 4 [some (pR 1), some (pI (cnt (fun r => decide (bd t r = -4)) i)), some (pI (i : Int))] [] h P := by
    intro n
    induction n with
    | zero =>
      intro i hi
      refine sX1_missingRoutines_4 ?_
      rw [R.2.1]
      have e : i = rt t := hi
      subst e
      exact ⟨fun _ => p, fun c => absurd (Int.le_refl _) c⟩
    | succ n ih =>
      intro i hi
      have hc := cnt_le (fun r => decide (bd t r = -4)) i
      have := ih (i + 1) (by omega)
      unfold cnt at this
      have hb : bdI t (i : Int) = bd t i := by
        unfold bdI
        rw [if_pos (by omega)]
        rfl
      refine sX1_missingRoutines_4 ?_
      rw [R.2.1]
      refine ⟨fun c => absurd c (by omega), fun _ => c_isMissing R i ⟨fun c => ⟨by unfold inR; omega, by unfold inR; omega, ?_⟩, fun c => ⟨by unfold inR; omega, by unfold inR; omega, ?_⟩⟩⟩
      · rw [b2_0, hb] at c
        rw [decide_eq_false c] at this
        exact this
      · rw [b2_n0, hb] at c
        rw [decide_eq_true c] at this
        exact this
  exact sX1_missingRoutines_0 (key (rt t) 0 (by omega))
end CQ
