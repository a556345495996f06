/-! WELL-FORMED states -/
def ar (t : TV) (s : Nat) : Nat := if kd t s = 2 ∨ kd t s = 5 ∨ kd t s = 8 ∨ kd t s = 10 then 2 else if kd t s = 3 then 3 else if kd t s = 4 ∨ kd t s = 7 ∨ kd t s = 9 ∨ kd t s = 11 then 1 else if kd t s = 6 then (pr t (nm t s).toNat).toNat else 0
def WF (t : TV) : Prop :=
  mk t ≤ 600 ∧ rt t ≤ 10 ∧
  (∀ r, r < rt t → 0 ≤ pr t r ∧ pr t r ≤ 3 ∧ (bd t r = -4 ∨ (al t (bd t r) ∧ up t (bd t r).toNat = -4))) ∧
  (∀ r q, r < rt t → q < rt t → r ≠ q → bd t r ≠ -4 → bd t r ≠ bd t q) ∧
  (∀ s, s < mk t → -1 ≤ kd t s ∧ kd t s ≤ 11 ∧ (kd t s = -1 → nm t s = 0 ∧ up t s = -4 ∧ ∀ k, k < 3 → pt t s k = -4)) ∧
  (∀ s, s < mk t → kd t s ≠ -1 → (kd t s = 1 ∨ kd t s = 4 → 0 ≤ nm t s ∧ nm t s < 40) ∧ (kd t s = 6 → 0 ≤ nm t s ∧ nm t s < (rt t : Int)) ∧ (kd t s = 2 → 0 ≤ nm t s ∧ nm t s ≤ 5) ∧ ∀ k, k < 3 → (k < ar t s → 0 ≤ pt t s k) ∧ (ar t s ≤ k → pt t s k = -4)) ∧
  (∀ s, s < mk t → kd t s ≠ -1 → tr t 40 s) ∧
  (∀ s, s < mk t → kd t s ≠ -1 → up t s ≠ -4 → al t (up t s) ∧ ∃ k, k < 3 ∧ pt t (up t s).toNat k = (s : Int))
theorem WF.trr {t : TV} (w : WF t) {z : Int} (h : al t z) : tr t 40 z.toNat := w.2.2.2.2.2.2.1 z.toNat (by have := h.2.1; have := h.1; omega) h.2.2
theorem WF.m {t : TV} (w : WF t) : mk t ≤ 600 ∧ rt t ≤ 10 := ⟨w.1, w.2.1⟩
theorem WF.nmr {t : TV} (w : WF t) {s : Nat} (hs : s < mk t) (hk : kd t s ≠ -1) : (kd t s = 1 ∨ kd t s = 4 → 0 ≤ nm t s ∧ nm t s < 40) ∧ (kd t s = 6 → 0 ≤ nm t s ∧ nm t s < (rt t : Int)) := ⟨(w.2.2.2.2.2.1 s hs hk).1, (w.2.2.2.2.2.1 s hs hk).2.1⟩
theorem plist_at {t : TV} (w : WF t) {z : Int} {q : Nat × Nat} (h : q ∈ plist t z) : q.1 < mk t ∧ kd t q.1 ≠ -1 := by
  unfold plist at h
  split at h
  · rename_i ha
    exact tr_at (pre_in (x := q.1) (dx := q.2) h (w.trr ha)).2.2
  · cases h
theorem plist_d {t : TV} (w : WF t) {z : Int} {q : Nat × Nat} (h : q ∈ plist t z) : 1 ≤ q.2 ∧ q.2 ≤ 40 := by
  unfold plist at h
  split at h
  · rename_i ha
    have := pre_in (x := q.1) (dx := q.2) h (w.trr ha)
    omega
  · cases h
/-- what is asked of a list -/
def hiL (D : List (Nat × Nat)) : Nat := D.foldl (fun a q => max a q.2) 0
def usS (t : TV) (a : Int) (q : Nat × Nat) : Int := if kd t q.1 = 1 ∨ kd t q.1 = 4 then max a (nm t q.1 + 1) else a
def usL (t : TV) (D : List (Nat × Nat)) (p : Int) : Int := D.foldl (usS t) p
def uses (t : TV) (r : Int) : Int := usL t (plist t (bdI t r)) (prI t r)
def caL (t : TV) (D : List (Nat × Nat)) : Nat := D.foldl (fun a q => if kd t q.1 = 6 then a + 1 else a) 0
def keyL (t : TV) (D : List (Nat × Nat)) : List (Nat × Int × Int) := D.map (fun q => (q.2, kd t q.1, nm t q.1))
theorem hiL_snoc (D : List (Nat × Nat)) (q : Nat × Nat) : hiL (D ++ [q]) = max (hiL D) q.2 := by simp [hiL]
theorem usL_snoc (t : TV) (D : List (Nat × Nat)) (q : Nat × Nat) (p : Int) : usL t (D ++ [q]) p = usS t (usL t D p) q := by simp [usL]
theorem caL_snoc (t : TV) (D : List (Nat × Nat)) (q : Nat × Nat) : caL t (D ++ [q]) = if kd t q.1 = 6 then caL t D + 1 else caL t D := by simp [caL]
theorem hiL_le {D : List (Nat × Nat)} {n : Nat} (h : ∀ q ∈ D, q.2 ≤ n) : hiL D ≤ n := by
  have key : ∀ (D : List (Nat × Nat)) (a : Nat), a ≤ n → (∀ q ∈ D, q.2 ≤ n) → D.foldl (fun a q => max a q.2) a ≤ n := by
    intro D
    induction D with
    | nil => exact fun a ha _ => ha
    | cons q D ih => exact fun a ha hq => ih _ (by have := hq q List.mem_cons_self; show max a q.2 ≤ n; omega) (fun r hr => hq r (List.mem_cons_of_mem _ hr))
  exact key D 0 (Nat.zero_le _) h
theorem usL_in {t : TV} {D : List (Nat × Nat)} {p : Int} (hp : 0 ≤ p ∧ p ≤ 3) (h : ∀ q ∈ D, (kd t q.1 = 1 ∨ kd t q.1 = 4) → 0 ≤ nm t q.1 ∧ nm t q.1 < 40) : 0 ≤ usL t D p ∧ usL t D p ≤ 40 := by
  have key : ∀ (D : List (Nat × Nat)) (a : Int), 0 ≤ a ∧ a ≤ 40 → (∀ q ∈ D, (kd t q.1 = 1 ∨ kd t q.1 = 4) → 0 ≤ nm t q.1 ∧ nm t q.1 < 40) → 0 ≤ D.foldl (usS t) a ∧ D.foldl (usS t) a ≤ 40 := by
    intro D
    induction D with
    | nil => exact fun a ha _ => ha
    | cons q D ih =>
      intro a ha hq
      refine ih _ ?_ (fun r hr => hq r (List.mem_cons_of_mem _ hr))
      unfold usS
      split
      · rename_i hc
        have := hq q List.mem_cons_self hc
        omega
      · exact ha
  exact key D p (by omega) h
theorem caL_le (t : TV) (D : List (Nat × Nat)) : caL t D ≤ D.length := by
  have key : ∀ (D : List (Nat × Nat)) (a : Nat), D.foldl (fun a q => if kd t q.1 = 6 then a + 1 else a) a ≤ a + D.length := by
    intro D
    induction D with
    | nil => exact fun a => Nat.le_refl _
    | cons q D ih =>
      intro a
      have := ih (if kd t q.1 = 6 then a + 1 else a)
      simp only [List.foldl_cons, List.length_cons]
      split at this <;> rename_i hc <;> simp only [hc, if_true, if_false] <;> omega
  have := key D 0
  unfold caL
  omega
theorem WF.prr {t : TV} (w : WF t) (r : Int) : 0 ≤ prI t r ∧ prI t r ≤ 3 := by
  unfold prI
  split
  · rename_i h
    have := w.2.2.1 r.toNat (by omega)
    exact ⟨this.1, this.2.1⟩
  · omega
theorem WF.us {t : TV} (w : WF t) (r : Int) : 0 ≤ uses t r ∧ uses t r ≤ 40 := usL_in (w.prr r) (fun q hq hk => (w.nmr (plist_at w hq).1 (plist_at w hq).2).1 hk)
theorem kdI_at {t : TV} {s : Nat} (h : s < mk t) : kdI t (s : Int) = kd t s := by
  unfold kdI
  rw [if_pos (by omega)]
  rfl
theorem nmI_at {t : TV} {s : Nat} (h : s < mk t) : nmI t (s : Int) = nm t s := by
  unfold nmI
  rw [if_pos (by omega)]
  rfl
theorem isW9 : isW 9 := Or.inl rfl
theorem isW14 : isW 14 := Or.inr (Or.inl rfl)
theorem isW31 : isW 31 := Or.inr (Or.inr rfl)
/-! THE CLASS: Code's questions over a list -/
section CL
variable {t : TV} {h : Hp} {P : Int → Hp → Prop}
theorem c_sizeOf (w : WF t) (R : RC t h) (z : Int) (p : ∀ h', fr 9 13 h h' → P ((plist t z).length : Int) h') : Cl shC mX1_sizeOf [pR 1, pI z] h P :=
  sX1_sizeOf_0 (c_over isW9 R z w.trr (fun h' x hs _ => by rw [hs]; exact p h' x))
theorem c_highOf (w : WF t) (R : RC t h) (z : Int) (p : ∀ h', fr 9 13 h h' → P (hiL (plist t z) : Int) h') : Cl shC mX1_highOf [pR 1, pI z] h P := by
  have hm := R.m
  have hlen := plist_len (t := t) (z := z) w.trr
  refine sX1_highOf_0 (c_over isW9 R z w.trr (fun h' x hs hD => ?_))
  have key : ∀ (D2 D1 : List (Nat × Nat)), D1 ++ D2 = plist t z → Ok shC 0 0 mX1_highOf 16 [some (pR 1), none, some (pI (hiL D1 : Int)), some (pI (D1.length : Int))] [] h' P := by
    intro D2
    induction D2 with
    | nil =>
      intro D1 he
      rw [List.append_nil] at he
      subst he
      exact sX1_highOf_16 ⟨fun _ => p h' x, fun c => absurd (by rw [hs]; exact Int.le_refl _) c⟩
    | cons q D2 ih =>
      intro D1 he
      have hl : D1.length < (plist t z).length := by rw [← he]; simp
      have hq : (plist t z)[D1.length]? = some q := by rw [← he]; simp
      refine sX1_highOf_16 ⟨fun c => absurd c (by omega), fun _ => ⟨D1.length, rfl, by omega, by unfold inR; omega, ?_⟩⟩
      rw [(hD _ _ hq).2]
      have := ih (D1 ++ [q]) (by rw [← he]; simp)
      rw [hiL_snoc, List.length_append] at this
      rw [show max (hiL D1 : Int) (q.2 : Int) = ((max (hiL D1) q.2 : Nat) : Int) by omega]
      exact this
  exact key (plist t z) [] rfl
theorem c_usesOf (w : WF t) (R : RC t h) (r : Int) (p : ∀ h', fr 9 13 h h' → P (uses t r) h') : Cl shC mX1_usesOf [pR 1, pI r] h P := by
  have hm := R.m
  have hlen := plist_len (t := t) (z := bdI t r) w.trr
  refine sX1_usesOf_0 (c_bodyOf R r (c_over isW9 R _ w.trr (fun h' x hs hD => ?_)))
  have R' := R.wk isW9 x
  refine c_paramsOf R' r ?_
  have key : ∀ (D2 D1 : List (Nat × Nat)), D1 ++ D2 = plist t (bdI t r) → Ok shC 0 0 mX1_usesOf 24 [some (pR 1), none, some (pI (usL t D1 (prI t r))), some (pI (D1.length : Int)), none] [] h' P := by
    intro D2
    induction D2 with
    | nil =>
      intro D1 he
      rw [List.append_nil] at he
      subst he
      exact sX1_usesOf_24 ⟨fun _ => p h' x, fun c => absurd (by rw [hs]; exact Int.le_refl _) c⟩
    | cons q D2 ih =>
      intro D1 he
      have hl : D1.length < (plist t (bdI t r)).length := by rw [← he]; simp
      have hq : (plist t (bdI t r))[D1.length]? = some q := by rw [← he]; simp
      have hqm := plist_at w (List.mem_of_getElem? hq)
      have hn := (w.nmr hqm.1 hqm.2).1
      have := ih (D1 ++ [q]) (by rw [← he]; simp)
      rw [usL_snoc, List.length_append] at this
      unfold usS at this
      refine sX1_usesOf_24 ⟨fun c => absurd c (by omega), fun _ => ⟨D1.length, rfl, by omega, ?_⟩⟩
      rw [(hD _ _ hq).1]
      refine c_kindOf R' _ ?_
      rw [kdI_at hqm.1]
      refine ⟨fun c => c_numberOf R' _ ?_, fun c => ⟨fun c2 => ⟨by unfold inR; omega, ?_⟩, fun c2 => c_numberOf R' _ ?_⟩⟩
      · rw [(hD _ _ hq).1, nmI_at hqm.1]
        have := hn (Or.inl c)
        rw [if_pos (Or.inl c)] at *
        exact ⟨by unfold inR; omega, by unfold inR; omega, by assumption⟩
      · rw [if_neg (by omega)] at this
        exact this
      · rw [(hD _ _ hq).1, nmI_at hqm.1]
        have := hn (Or.inr c2)
        rw [if_pos (Or.inr c2)] at *
        exact ⟨by unfold inR; omega, by unfold inR; omega, by assumption⟩
  exact key (plist t (bdI t r)) [] rfl
theorem c_callsIn (w : WF t) (R : RC t h) (r : Int) (p : ∀ h', fr 9 13 h h' → P (caL t (plist t (bdI t r)) : Int) h') : Cl shC mX1_callsIn [pR 1, pI r] h P := by
  have hm := R.m
  have hlen := plist_len (t := t) (z := bdI t r) w.trr
  refine sX1_callsIn_0 (c_bodyOf R r (c_over isW9 R _ w.trr (fun h' x hs hD => ?_)))
  have R' := R.wk isW9 x
  have key : ∀ (D2 D1 : List (Nat × Nat)), D1 ++ D2 = plist t (bdI t r) → Ok shC 0 0 mX1_callsIn 20 [some (pR 1), none, some (pI (caL t D1 : Int)), some (pI (D1.length : Int))] [] h' P := by
    intro D2
    induction D2 with
    | nil =>
      intro D1 he
      rw [List.append_nil] at he
      subst he
      exact sX1_callsIn_20 ⟨fun _ => p h' x, fun c => absurd (by rw [hs]; exact Int.le_refl _) c⟩
    | cons q D2 ih =>
      intro D1 he
      have hl : D1.length < (plist t (bdI t r)).length := by rw [← he]; simp
      have hq : (plist t (bdI t r))[D1.length]? = some q := by rw [← he]; simp
      have hqm := plist_at w (List.mem_of_getElem? hq)
      have hc := caL_le t D1
      have := ih (D1 ++ [q]) (by rw [← he]; simp)
      rw [caL_snoc, List.length_append] at this
      refine sX1_callsIn_20 ⟨fun c => absurd c (by omega), fun _ => ⟨D1.length, rfl, by omega, ?_⟩⟩
      rw [(hD _ _ hq).1]
      refine c_kindOf R' _ ?_
      rw [kdI_at hqm.1]
      refine ⟨fun c => ⟨by unfold inR; omega, by unfold inR; omega, ?_⟩, fun c => ⟨by unfold inR; omega, by unfold inR; omega, ?_⟩⟩
      · rw [if_neg c] at this
        exact this
      · rw [if_pos c] at this
        exact this
  exact key (plist t (bdI t r)) [] rfl
theorem c_callsOf (R : RC t h) (r : Int) (p : P (cnt (fun s => decide (nm t s = r ∧ cib t s)) (mk t) : Int) h) : Cl shC mX1_callsOf [pR 1, pI r] h P := by
  have hm := R.m
  have key : ∀ n i : Nat, i + n = mk t → Ok shC 0 0 mX1_callsOf 4 [some (pR 1), some (pI r), some (pI (cnt (fun s => decide (nm t s = r ∧ cib t s)) i)), some (pI (i : Int))] [] h P := by
    intro n
    induction n with
    | zero =>
      intro i hi
      refine sX1_callsOf_4 ?_
      rw [R.1]
      have e : i = mk t := hi
      subst e
      exact ⟨fun _ => p, fun c => absurd (Int.le_refl _) c⟩
    | succ n ih =>
      intro i hi
      have hc := cnt_le (fun s => decide (nm t s = r ∧ cib t s)) i
      have := ih (i + 1) (by omega)
      unfold cnt at this
      refine sX1_callsOf_4 ?_
      rw [R.1]
      refine ⟨fun c => absurd c (by omega), fun _ => c_numberOf R i ?_⟩
      rw [nmI_at (by omega)]
      refine ⟨fun c => ⟨by unfold inR; omega, by unfold inR; omega, ?_⟩, fun c => c_isCallInBody R i ⟨fun c2 => ⟨by unfold inR; omega, by unfold inR; omega, ?_⟩, fun c2 => ⟨by unfold inR; omega, by unfold inR; omega, ?_⟩⟩⟩
      · rw [decide_eq_false (fun q => c q.1)] at this
        exact this
      · rw [b2_0] at c2
        rw [decide_eq_false (fun q => c2 q.2)] at this
        exact this
      · rw [b2_n0] at c2
        rw [decide_eq_true ⟨c, c2⟩] at this
        exact this
  exact sX1_callsOf_0 (key (mk t) 0 (by omega))
theorem c_areAlike (w : WF t) (R : RC t h) (x y : Int) (p : ∀ h', fr 9 18 h h' → P (b2 (keyL t (plist t x) = keyL t (plist t y))) h') : Cl shC mX1_areAlike [pR 1, pI x, pI y] h P := by
  have hm := R.m
  have hlx := plist_len (t := t) (z := x) w.trr
  have hly := plist_len (t := t) (z := y) w.trr
  refine sX1_areAlike_0 (c_over isW9 R x w.trr (fun h1 x1 hs1 hD1 => ?_))
  have R1 := R.wk isW9 x1
  refine c_over isW14 R1 y w.trr (fun h2 x2 hs2 hD2 => ?_)
  have R2 := R1.wk isW14 x2
  have hs1' : h2.2.1 9 4 = ((plist t x).length : Int) := by rw [x2.i (Or.inl (by decide))]; exact hs1
  have hD1' : DA h2 10 11 (plist t x) := DA_eq hD1 (fun j _ => by rw [x2.a (Or.inl (by decide)), x2.a (Or.inl (by decide))]; exact ⟨rfl, rfl⟩)
  have xx : fr 9 18 h h2 := (x1.wd (by decide) (by decide)).tr (x2.wd (by decide) (by decide))
  refine ⟨fun c => ?_, fun c => ?_⟩
  · rw [hs1', hs2] at c
    have hl : (plist t x).length = (plist t y).length := by omega
    have key : ∀ (D2 D1 E1 E2 : List (Nat × Nat)), D1 ++ D2 = plist t x → E1 ++ E2 = plist t y → D1.length = E1.length → keyL t D1 = keyL t E1 → Ok shC 0 0 mX1_areAlike 45 [some (pR 1), none, none, some (pI (D1.length : Int)), none, none] [] h2 P := by
      intro D2
      induction D2 with
      | nil =>
        intro D1 E1 E2 he1 he2 hll hk
        rw [List.append_nil] at he1
        subst he1
        have : E2 = [] := by
          have := congrArg List.length he2
          rw [List.length_append] at this
          exact List.length_eq_zero_iff.mp (by omega)
        subst this
        rw [List.append_nil] at he2
        subst he2
        refine sX1_areAlike_45 ⟨fun _ => ?_, fun c => absurd (by rw [hs1']; exact Int.le_refl _) c⟩
        have := p h2 xx
        rwa [b2, if_pos hk] at this
      | cons q D2 ih =>
        intro D1 E1 E2 he1 he2 hll hk
        cases E2 with
        | nil =>
          have h3 := congrArg List.length he1
          have h4 := congrArg List.length he2
          simp at h3 h4
          omega
        | cons q' E2 =>
          have hl1 : D1.length < (plist t x).length := by rw [← he1]; simp
          have hq : (plist t x)[D1.length]? = some q := by rw [← he1]; simp
          have hq' : (plist t y)[D1.length]? = some q' := by rw [← he2, hll]; simp
          have hqm := plist_at w (List.mem_of_getElem? hq)
          have hqm' := plist_at w (List.mem_of_getElem? hq')
          have neq : ¬ ((q.2, kd t q.1, nm t q.1) = (q'.2, kd t q'.1, nm t q'.1)) → P 0 h2 := by
            intro hne
            have := p h2 xx
            rwa [b2, if_neg (fun e => hne ?_)] at this
            rw [← he1, ← he2] at e
            unfold keyL at e
            rw [List.map_append, List.map_append, List.map_cons, List.map_cons] at e
            have := (List.append_inj e (by simp [hll])).2
            exact (List.cons.inj this).1
          refine sX1_areAlike_45 ⟨fun c => absurd c (by omega), fun _ => ⟨D1.length, rfl, by omega, ?_⟩⟩
          rw [(hD1' _ _ hq).1, (hD1' _ _ hq).2, (hD2 _ _ hq').1, (hD2 _ _ hq').2]
          refine ⟨fun c => neq (fun e => c (by have h9 : q.2 = q'.2 := congrArg Prod.fst e; rw [h9])), fun c => c_kindOf R2 _ (c_kindOf R2 _ ?_)⟩
          rw [kdI_at hqm.1, kdI_at hqm'.1]
          refine ⟨fun c2 => neq (fun e => c2 (congrArg (fun z => z.2.1) e)), fun c2 => c_numberOf R2 _ (c_numberOf R2 _ ?_)⟩
          rw [nmI_at hqm.1, nmI_at hqm'.1]
          refine ⟨fun c3 => ⟨by unfold inR; omega, ?_⟩, fun c3 => neq (fun e => c3 (congrArg (fun z => z.2.2) e))⟩
          have := ih (D1 ++ [q]) (E1 ++ [q']) E2 (by rw [← he1]; simp) (by rw [← he2]; simp) (by simp [hll]) (by
            unfold keyL at hk ⊢
            rw [List.map_append, List.map_append, hk]
            have c' : q.2 = q'.2 := by omega
            simp [c', c2, c3])
          rw [List.length_append] at this
          exact this
    exact key (plist t x) [] [] (plist t y) rfl rfl rfl rfl
  · rw [hs1', hs2] at c
    have := p h2 xx
    rwa [b2, if_neg (fun e => c ?_)] at this
    have := congrArg List.length e
    unfold keyL at this
    rw [List.length_map, List.length_map] at this
    omega
end CL
