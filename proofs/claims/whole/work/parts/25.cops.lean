/-! CHANGES of a state -/
def tw (t : TV) (ro i : Nat) (v : Int) : TV := (fun r j => if r = ro ∧ j = i then v else t.1 r j, t.2)
/-- a step anew, loose, without parts -/
def clr (t : TV) (s : Nat) (k v : Int) : TV := (fun r j => if r = 0 ∧ j = s then k else if r = 1 ∧ j = s then v else if r = 3 ∧ j = s then -4 else if r = 2 ∧ j / 3 = s then -4 else t.1 r j, t.2)
def mkS (t : TV) (k v : Int) : TV := ((clr t (mk t) k v).1, (mk t + 1, rt t))
/-- parts x of step a become y (those ahead of place n) -/
def rpl (t : TV) (a n : Nat) (x y : Int) : TV := (fun r j => if r = 2 ∧ j / 3 = a ∧ j % 3 < n ∧ t.1 2 j = x then y else t.1 r j, t.2)
/-- a step is a part no more -/
def lsn (t : TV) (z : Nat) : TV := if up t z = -4 then t else tw (rpl t (up t z).toNat 3 z (-4)) 3 z (-4)
/-- a step p stands where s stood -/
def tkP (t : TV) (s p : Nat) : TV := if up (lsn t p) s = -4 then (if 0 ≤ ow (lsn t p) s then tw (lsn t p) 5 (ow (lsn t p) s).toNat p else lsn t p) else tw (tw (rpl (lsn t p) (up (lsn t p) s).toNat 3 s p) 3 p (up (lsn t p) s)) 3 s (-4)
/-- all of a list go -/
def eT (t : TV) (D : List (Nat × Nat)) : TV := D.foldl (fun t q => clr t q.1 (-1) 0) t
theorem Hd.wr {ρ : Nat → Nat} {t : TV} {h : Hp} (R : Hd ρ t h) {ro : Nat} (hρ : ∀ a, a < 6 → (ρ a = ρ ro ↔ a = ro)) (i : Nat) (v : Int) : Hd ρ (tw t ro i v) (hA h (ρ ro) i v) := by
  obtain ⟨r1, r2, r3, r4, r5⟩ := R
  have key : ∀ a j, a < 6 → h.1 (ρ a) j = t.1 a j → (hA h (ρ ro) i v).1 (ρ a) j = (tw t ro i v).1 a j := by
    intro a j ha he
    show (if ρ a = ρ ro ∧ j = i then v else h.1 (ρ a) j) = (if a = ro ∧ j = i then v else t.1 a j)
    by_cases q : a = ro ∧ j = i
    · rw [if_pos ⟨(hρ a ha).mpr q.1, q.2⟩, if_pos q]
    · rw [if_neg (fun z => q ⟨(hρ a ha).mp z.1, z.2⟩), if_neg q, he]
  exact ⟨r1, r2, fun s hs => ⟨key 0 s (by decide) (r3 s hs).1, key 1 s (by decide) (r3 s hs).2.1, key 3 s (by decide) (r3 s hs).2.2⟩, fun j hj => key 2 j (by decide) (r4 j hj), fun r hr => ⟨key 4 r (by decide) (r5 r hr).1, key 5 r (by decide) (r5 r hr).2⟩⟩
theorem RC.wr {t : TV} {h : Hp} (R : RC t h) {ro : Nat} (hro : ro < 6) (i : Nat) (v : Int) : RC (tw t ro i v) (hA h (3 + ro) i v) :=
  ⟨R.1, R.2.1, Hd.wr R.2.2 (fun a _ => by show 3 + a = 3 + ro ↔ a = ro; omega) i v⟩
/-- two states that agree as far as they are held -/
def TE (t t' : TV) : Prop := mk t' = mk t ∧ rt t' = rt t ∧ (∀ s, s < mk t → kd t' s = kd t s ∧ nm t' s = nm t s ∧ up t' s = up t s) ∧ (∀ j, j < 3 * mk t → t'.1 2 j = t.1 2 j) ∧ ∀ r, r < rt t → pr t' r = pr t r ∧ bd t' r = bd t r
theorem TE.of {t t' : TV} (e : t' = t) : TE t t' := by
  subst e
  exact ⟨rfl, rfl, fun _ _ => ⟨rfl, rfl, rfl⟩, fun _ _ => rfl, fun _ _ => ⟨rfl, rfl⟩⟩
theorem Hd.te {ρ : Nat → Nat} {t t' : TV} {h : Hp} (R : Hd ρ t h) (e : TE t t') : Hd ρ t' h := by
  obtain ⟨r1, r2, r3, r4, r5⟩ := R
  obtain ⟨e1, e2, e3, e4, e5⟩ := e
  refine ⟨by rw [e1]; exact r1, by rw [e2]; exact r2, fun s hs => ?_, fun j hj => ?_, fun r hr => ?_⟩
  · rw [e1] at hs
    rw [(e3 s hs).1, (e3 s hs).2.1, (e3 s hs).2.2]
    exact r3 s hs
  · rw [e1] at hj
    rw [e4 j hj]
    exact r4 j hj
  · rw [e2] at hr
    rw [(e5 r hr).1, (e5 r hr).2]
    exact r5 r hr
theorem RC.te {t t' : TV} {h : Hp} (R : RC t h) (e : TE t t') : RC t' h := ⟨by rw [e.1]; exact R.1, by rw [e.2.1]; exact R.2.1, Hd.te R.2.2 e⟩
theorem tw_id {t : TV} {ro i : Nat} {v : Int} (h : t.1 ro i = v) : tw t ro i v = t := by
  obtain ⟨f, m⟩ := t
  unfold tw
  congr 1
  funext r j
  by_cases q : r = ro ∧ j = i
  · rw [if_pos q, q.1, q.2]
    exact h.symm
  · rw [if_neg q]
theorem tv_ext {t t' : TV} (h1 : ∀ r j, t.1 r j = t'.1 r j) (h2 : t.2 = t'.2) : t = t' := by
  obtain ⟨f, m⟩ := t
  obtain ⟨f', m'⟩ := t'
  have : f = f' := funext fun r => funext fun j => h1 r j
  subst this
  have h2 : m = m' := h2
  subst h2
  rfl
section CO
variable {t : TV} {h : Hp} {P : Int → Hp → Prop}
theorem clr_eq (t : TV) (s : Nat) (k v : Int) : tw (tw (tw (tw (tw (tw t 0 s k) 1 s v) 3 s (-4)) 2 (3 * s) (-4)) 2 (3 * s + 1) (-4)) 2 (3 * s + 2) (-4) = clr t s k v := by
  apply tv_ext
  · intro r j
    unfold tw clr
    simp only
    by_cases r0 : r = 0
    · subst r0
      simp
    · by_cases r1 : r = 1
      · subst r1
        simp
      · by_cases r3 : r = 3
        · subst r3
          simp
        · by_cases r2 : r = 2
          · subst r2
            simp
            by_cases q : j / 3 = s
            · rw [if_pos q]
              rcases (by omega : j = 3 * s ∨ j = 3 * s + 1 ∨ j = 3 * s + 2) with e | e | e
              · rw [if_neg (by omega), if_neg (by omega), if_pos e]
              · rw [if_neg (by omega), if_pos e]
              · rw [if_pos e]
            · rw [if_neg q, if_neg (by omega), if_neg (by omega), if_neg (by omega)]
          · simp [r0, r1, r2, r3]
  · rfl
theorem c_clear (R : RC t h) {s : Nat} (hs : s < 600) (k v : Int) (p : ∀ h', fr 2 8 h h' → RC (clr t s k v) h' → (∀ a, a < 3 ∨ 6 < a → h'.1 a = h.1 a) → (∀ a j, ¬ j = s → ¬ a = 5 → h'.1 a j = h.1 a j) → (h'.1 3 s = k ∧ h'.1 4 s = v ∧ h'.1 6 s = -4 ∧ ∀ j, j / 3 = s → h'.1 5 j = -4) → (∀ j, ¬ j / 3 = s → h'.1 5 j = h.1 5 j) → h'.2 = h.2 → P 0 h') : Cl shC mX5_clear [pR 2, pI (s : Int), pI k, pI v] h P := by
  refine sX5_clear_0 ⟨fun c => absurd c (by omega), fun _ => ⟨fun _ => ⟨s, rfl, hs, ?_⟩, fun c => absurd (show (s : Int) < 600 by omega) c⟩⟩
  refine sX5_clear_37 ⟨fun c => absurd c (by decide), fun _ => ⟨by unfold inR; omega, by unfold inR; omega, ⟨3 * s, by omega, by omega, by unfold inR; omega, ?_⟩⟩⟩
  refine sX5_clear_37 ⟨fun c => absurd c (by decide), fun _ => ⟨by unfold inR; omega, by unfold inR; omega, ⟨3 * s + 1, by omega, by omega, by unfold inR; omega, ?_⟩⟩⟩
  refine sX5_clear_37 ⟨fun c => absurd c (by decide), fun _ => ⟨by unfold inR; omega, by unfold inR; omega, ⟨3 * s + 2, by omega, by omega, by unfold inR; omega, ?_⟩⟩⟩
  refine sX5_clear_37 ⟨fun _ => ?_, fun c => absurd (show (3 : Int) ≤ 0 + 1 + 1 + 1 by decide) c⟩
  have R' := (((((R.wr (ro := 0) (by decide) s k).wr (ro := 1) (by decide) s v).wr (ro := 3) (by decide) s (-4)).wr (ro := 2) (by decide) (3 * s) (-4)).wr (ro := 2) (by decide) (3 * s + 1) (-4)).wr (ro := 2) (by decide) (3 * s + 2) (-4)
  rw [clr_eq] at R'
  refine p _ ((((((fr.rf.A ⟨by decide, by decide⟩).A ⟨by decide, by decide⟩).A ⟨by decide, by decide⟩).A ⟨by decide, by decide⟩).A ⟨by decide, by decide⟩).A ⟨by decide, by decide⟩) R' ?_ ?_ ?_ ?_ rfl
  · intro a ha
    funext j
    simp only [hA_at]
    rw [if_neg (by omega), if_neg (by omega), if_neg (by omega), if_neg (by omega), if_neg (by omega), if_neg (by omega)]
  · intro a j hj ha
    simp only [hA_at]
    rw [if_neg (by omega), if_neg (by omega), if_neg (by omega), if_neg (by omega), if_neg (by omega), if_neg (by omega)]
  · refine ⟨?_, ?_, ?_, fun j hj => ?_⟩
    · simp only [hA_at]
      rw [if_neg (by omega), if_neg (by omega), if_neg (by omega), if_neg (by omega), if_neg (by omega), if_pos ⟨trivial, trivial⟩]
    · simp only [hA_at]
      rw [if_neg (by omega), if_neg (by omega), if_neg (by omega), if_neg (by omega), if_pos ⟨trivial, trivial⟩]
    · simp only [hA_at]
      rw [if_neg (by omega), if_neg (by omega), if_neg (by omega), if_pos ⟨trivial, trivial⟩]
    · simp only [hA_at]
      rcases (by omega : j = 3 * s ∨ j = 3 * s + 1 ∨ j = 3 * s + 2) with e | e | e
      · rw [if_neg (by omega), if_neg (by omega), if_pos ⟨trivial, e⟩]
      · rw [if_neg (by omega), if_pos ⟨trivial, e⟩]
      · rw [if_pos ⟨trivial, e⟩]
  · intro j hj
    simp only [hA_at]
    rw [if_neg (by omega), if_neg (by omega), if_neg (by omega), if_neg (by omega), if_neg (by omega), if_neg (by omega)]
theorem mkS_hd {ρ : Nat → Nat} {k v : Int} {h : Hp} (R : Hd ρ (clr t (mk t) k v) h) (hm : mk t < 600) (h1 : h.1 (ρ 0) (mk t) = k ∧ h.1 (ρ 1) (mk t) = v ∧ h.1 (ρ 3) (mk t) = -4 ∧ ∀ j, j / 3 = mk t → h.1 (ρ 2) j = -4) : Hd ρ (mkS t k v) h := by
  obtain ⟨r1, r2, r3, r4, r5⟩ := R
  refine ⟨by show mk t + 1 ≤ 600; omega, r2, fun s hs => ?_, fun j hj => ?_, r5⟩
  · have hs : s < mk t + 1 := hs
    by_cases e : s = mk t
    · subst e
      rw [h1.1, h1.2.1, h1.2.2.1]
      refine ⟨?_, ?_, ?_⟩
      · show k = (clr t (mk t) k v).1 0 (mk t)
        simp [clr]
      · show v = (clr t (mk t) k v).1 1 (mk t)
        simp [clr]
      · show -4 = (clr t (mk t) k v).1 3 (mk t)
        simp [clr]
    · exact r3 s (by show s < mk t; omega)
  · have hj : j < 3 * (mk t + 1) := hj
    by_cases e : j / 3 = mk t
    · rw [h1.2.2.2 j e]
      show -4 = (clr t (mk t) k v).1 2 j
      simp [clr, e]
    · exact r4 j (by show j < 3 * mk t; omega)
theorem c_add (R : RC t h) (hm : mk t < 600) (k v : Int) (p : ∀ h', fr 2 8 h h' → RC (mkS t k v) h' → P (mk t : Int) h') : Cl shC mX1_add [pR 1, pI k, pI v] h P := by
  refine sX1_add_0 ?_
  rw [R.1]
  refine ⟨fun _ => c_clear R hm k v (fun h' x R' e1 _ e3 _ e5 => ⟨by unfold inR; omega, ?_⟩), fun c => absurd (show (mk t : Int) < 600 by omega) c⟩
  refine p _ (x.I ⟨by decide, by decide⟩) ⟨?_, ?_, ?_⟩
  · rw [hI_at, if_pos ⟨rfl, rfl⟩]
    show (mk t : Int) + 1 = ((mk t + 1 : Nat) : Int)
    omega
  · rw [hI_at, if_neg (by omega)]
    exact R'.2.1
  · exact mkS_hd (h := hI h' 2 6 ((mk t : Int) + 1)) R'.2.2 hm ⟨e3.1, e3.2.1, e3.2.2.1, e3.2.2.2⟩
theorem c_add_full (R : RC t h) (hm : ¬ mk t < 600) (k v : Int) (p : P (-4) h) : Cl shC mX1_add [pR 1, pI k, pI v] h P := by
  refine sX1_add_0 ?_
  rw [R.1]
  exact ⟨fun c => absurd c (by omega), fun _ => p⟩
theorem c_setBody (R : RC t h) (r z : Int) (p : ∀ h', fr 2 8 h h' → RC (if 0 ≤ r ∧ r < (rt t : Int) then tw t 5 r.toNat z else t) h' → P 0 h') : Cl shC mX1_setBody [pR 1, pI r, pI z] h P := by
  have hm := R.m
  refine sX1_setBody_0 ?_
  rw [R.2.1]
  refine ⟨fun c => p h fr.rf (by rw [if_neg (by omega)]; exact R), fun c => ⟨fun c2 => p h fr.rf (by rw [if_neg (by omega)]; exact R), fun c2 => exI (by omega) (by omega) (p _ (fr.rf.A ⟨by decide, by decide⟩) ?_)⟩⟩
  rw [if_pos (by omega)]
  exact R.wr (ro := 5) (by decide) _ _
theorem c_addRoutine (R : RC t h) (n : Int) (p1 : ∀ h', fr 2 8 h h' → rt t < 10 → RC (((tw (tw t 4 (rt t) n) 5 (rt t) (-4)).1, (mk t, rt t + 1)) : TV) h' → P (rt t : Int) h') (p2 : ¬ rt t < 10 → P (-4) h) : Cl shC mX1_addRoutine [pR 1, pI n] h P := by
  have hm := R.m
  refine sX1_addRoutine_0 ?_
  rw [R.2.1]
  refine ⟨fun c => ⟨rt t, rfl, by omega, by unfold inR; omega, ?_⟩, fun c => p2 (by omega)⟩
  have R' := (R.wr (ro := 4) (by decide) (rt t) n).wr (ro := 5) (by decide) (rt t) (-4)
  refine p1 _ (((fr.rf.A ⟨by decide, by decide⟩).A ⟨by decide, by decide⟩).I ⟨by decide, by decide⟩) (by omega) ⟨?_, ?_, ?_⟩
  · rw [hI_at, if_neg (by omega)]
    exact R.1
  · rw [hI_at, if_pos ⟨rfl, rfl⟩]
    show (rt t : Int) + 1 = ((rt t + 1 : Nat) : Int)
    omega
  · obtain ⟨r1, r2, r3, r4, r5⟩ := R'.2.2
    refine ⟨r1, by show rt t + 1 ≤ 10; omega, r3, r4, fun r hr => ?_⟩
    have hr : r < rt t + 1 := hr
    by_cases e : r = rt t
    · subst e
      refine ⟨?_, ?_⟩
      · show (hA (hA h (3 + 4) (rt t) n) (3 + 5) (rt t) (-4)).1 7 (rt t) = (tw (tw t 4 (rt t) n) 5 (rt t) (-4)).1 4 (rt t)
        simp [hA_at, tw]
      · show (hA (hA h (3 + 4) (rt t) n) (3 + 5) (rt t) (-4)).1 8 (rt t) = (tw (tw t 4 (rt t) n) 5 (rt t) (-4)).1 5 (rt t)
        simp [hA_at, tw]
    · exact r5 r (by show r < rt t; omega)
/-- the first free place -/
def fpl (t : TV) (s : Nat) : Nat := if pt t s 0 = -4 then 0 else if pt t s 1 = -4 then 1 else if pt t s 2 = -4 then 2 else 3
def lnk (t : TV) (s k p : Nat) : TV := tw (tw t 2 (3 * s + k) p) 3 p s
theorem ptI_at {t : TV} {s k : Nat} (hs : s < mk t) (hk : k < 3) : ptI t (s : Int) (k : Int) = pt t s k := by
  unfold ptI
  rw [if_pos (by omega)]
  rfl
theorem upI_at {t : TV} {s : Nat} (hs : s < mk t) : upI t (s : Int) = up t s := by
  unfold upI
  rw [if_pos (by omega)]
  rfl
theorem c_append (R : RC t h) {s q : Nat} (hs : al t s) (hq : al t q) {k : Nat} (hk : k < 3) (h0 : ∀ j, j < k → pt t s j ≠ -4) (h1 : pt t s k = -4) (p : ∀ h', fr 2 8 h h' → RC (lnk t s k q) h' → P 0 h') : Cl shC mX1_append [pR 1, pI (s : Int), pI (q : Int)] h P := by
  have hm := R.m
  have hs1 : s < mk t := by have := hs.2.1; omega
  have hq1 : q < mk t := by have := hq.2.1; omega
  have key : ∀ n i : Nat, i + n = k → Ok shC 0 0 mX1_append 2 [some (pR 1), some (pI (s : Int)), some (pI (q : Int)), some (pI (i : Int))] [] h P := by
    intro n
    induction n with
    | zero =>
      intro i hi
      have e : i = k := hi
      subst e
      refine sX1_append_2 ⟨fun c => absurd c (by omega), fun _ => c_isStep R _ ⟨fun c => absurd hs (b2_0.mp c), fun _ => c_isStep R _ ⟨fun c => absurd hq (b2_0.mp c), fun _ => c_partOf R _ _ ?_⟩⟩⟩
      rw [ptI_at hs1 hk]
      exact ⟨fun c => absurd h1 c, fun _ => ⟨by unfold inR; omega, by unfold inR; omega, ⟨3 * s + i, by omega, by omega, ⟨q, rfl, by omega, p _ ((fr.rf.A ⟨by decide, by decide⟩).A ⟨by decide, by decide⟩) ((R.wr (ro := 2) (by decide) _ _).wr (ro := 3) (by decide) _ _)⟩⟩⟩⟩
    | succ n ih =>
      intro i hi
      refine sX1_append_2 ⟨fun c => absurd c (by omega), fun _ => c_isStep R _ ⟨fun c => absurd hs (b2_0.mp c), fun _ => c_isStep R _ ⟨fun c => absurd hq (b2_0.mp c), fun _ => c_partOf R _ _ ?_⟩⟩⟩
      rw [ptI_at hs1 (by omega)]
      exact ⟨fun _ => ⟨by unfold inR; omega, ih (i + 1) (by omega)⟩, fun c => absurd c (h0 i (by omega))⟩
  exact sX1_append_0 (key k 0 (by omega))
theorem c_append_not (R : RC t h) {z : Int} (hs : ¬ al t z) (y : Int) (p : P 0 h) : Cl shC mX1_append [pR 1, pI z, pI y] h P :=
  sX1_append_0 (sX1_append_2 ⟨fun c => absurd c (by decide), fun _ => c_isStep R _ ⟨fun _ => p, fun c => absurd (b2_n0.mp c) hs⟩⟩)
theorem rpl_step (t : TV) (a n : Nat) (hn : n < 3) (x y : Int) : rpl t a (n + 1) x y = if t.1 2 (3 * a + n) = x then tw (rpl t a n x y) 2 (3 * a + n) y else rpl t a n x y := by
  split
  · rename_i hc
    apply tv_ext
    · intro r j
      unfold rpl tw
      simp only
      by_cases r2 : r = 2
      · subst r2
        by_cases e : j = 3 * a + n
        · subst e
          rw [if_pos ⟨rfl, by omega, by omega, hc⟩, if_pos ⟨rfl, rfl⟩]
        · rw [if_neg (show ¬ (2 = 2 ∧ j = 3 * a + n) from fun q => e q.2)]
          by_cases q : j / 3 = a ∧ j % 3 < n ∧ t.1 2 j = x
          · rw [if_pos ⟨rfl, q.1, by omega, q.2.2⟩, if_pos ⟨rfl, q⟩]
          · rw [if_neg (fun z => q ⟨z.2.1, by omega, z.2.2.2⟩), if_neg (fun z => q z.2)]
      · rw [if_neg (fun q => r2 q.1), if_neg (fun q => r2 q.1), if_neg (fun q => r2 q.1)]
    · rfl
  · rename_i hc
    apply tv_ext
    · intro r j
      unfold rpl
      simp only
      by_cases q : r = 2 ∧ j / 3 = a ∧ j % 3 < n ∧ t.1 2 j = x
      · rw [if_pos ⟨q.1, q.2.1, by omega, q.2.2.2⟩, if_pos q]
      · rw [if_neg q, if_neg (fun z => q ⟨z.1, z.2.1, by
          rcases Nat.lt_or_ge (j % 3) n with w | w
          · exact w
          · exfalso
            have e : j = 3 * a + n := by omega
            rw [e] at z
            exact hc z.2.2.2, z.2.2.2⟩)]
    · rfl
theorem rpl_0 (t : TV) (a : Nat) (x y : Int) : rpl t a 0 x y = t := by
  apply tv_ext
  · intro r j
    unfold rpl
    simp only
    rw [if_neg (by omega)]
  · rfl
theorem rpl_pt (t : TV) (a n : Nat) (x y : Int) (hn : n < 3) : (rpl t a n x y).1 2 (3 * a + n) = t.1 2 (3 * a + n) := by
  unfold rpl
  simp only
  rw [if_neg (by omega)]
theorem c_loosen (R : RC t h) {z : Nat} (hz : z < mk t) (hu : up t z = -4 ∨ (0 ≤ up t z ∧ up t z < (mk t : Int))) (p : ∀ h', fr 2 8 h h' → RC (lsn t z) h' → P 0 h') : Cl shC mX1_loosen [pR 1, pI (z : Int)] h P := by
  have hm := R.m
  refine sX1_loosen_0 (c_parentOf R _ ?_)
  rw [upI_at hz]
  refine ⟨fun c => ?_, fun c => p h fr.rf (by unfold lsn; rw [if_pos c]; exact R)⟩
  have hu := hu.resolve_left c
  obtain ⟨a, ha⟩ := Int.eq_ofNat_of_zero_le hu.1
  have e3 : lsn t z = tw (rpl t a 3 z (-4)) 3 z (-4) := by
    unfold lsn
    rw [if_neg c, ha]
    rfl
  rw [e3] at p
  rw [ha]
  have key : ∀ (n i : Nat) (h1 : Hp), i + n = 3 → fr 2 8 h h1 → RC (rpl t a i z (-4)) h1 → Ok shC 0 0 mX1_loosen 15 [some (pR 1), some (pI (z : Int)), some (pI (a : Int)), some (pI (i : Int))] [] h1 P := by
    intro n
    induction n with
    | zero =>
      intro i h1 hi x R1
      have e : i = 3 := hi
      subst e
      exact sX1_loosen_15 ⟨fun _ => ⟨z, rfl, by omega, p _ (x.A ⟨by decide, by decide⟩) (R1.wr (ro := 3) (by decide) _ _)⟩, fun c => absurd (Int.le_refl 3) c⟩
    | succ n ih =>
      intro i h1 hi x R1
      have hs := rpl_step t a i (by omega) z (-4)
      refine sX1_loosen_15 ⟨fun c => absurd c (by omega), fun _ => c_partOf R1 _ _ ?_⟩
      have e : ptI (rpl t a i z (-4)) (a : Int) (i : Int) = t.1 2 (3 * a + i) := by
        rw [ptI_at (t := rpl t a i z (-4)) (s := a) (k := i) (show a < mk t by omega) (by omega)]
        exact rpl_pt t a i z (-4) (by omega)
      rw [e]
      refine ⟨fun c => ⟨by unfold inR; omega, ?_⟩, fun c => ⟨by unfold inR; omega, by unfold inR; omega, ⟨3 * a + i, by omega, by omega, by unfold inR; omega, ?_⟩⟩⟩
      · rw [if_neg c] at hs
        exact ih (i + 1) h1 (by omega) x (by rw [hs]; exact R1)
      · rw [if_pos c] at hs
        exact ih (i + 1) _ (by omega) (x.A ⟨by decide, by decide⟩) (by rw [hs]; exact R1.wr (ro := 2) (by decide) _ _)
  exact key 3 0 h rfl fr.rf (by rw [rpl_0]; exact R)
theorem lsn_2 (t : TV) (z : Nat) : (lsn t z).2 = t.2 := by
  unfold lsn
  split <;> rfl
theorem lsn_0 (t : TV) (z ro j : Nat) (h2 : ro ≠ 2) (h3 : ro ≠ 3 ∨ j ≠ z) : (lsn t z).1 ro j = t.1 ro j := by
  unfold lsn
  split
  · rfl
  · unfold tw rpl
    simp only
    rw [if_neg (by omega), if_neg (by omega)]
theorem c_takePlace (R : RC t h) {s q : Nat} (hs : al t s) (hq : al t q) (hne : s ≠ q) (hu : up t q = -4 ∨ (0 ≤ up t q ∧ up t q < (mk t : Int))) (hus : up t s = -4 ∨ (0 ≤ up t s ∧ up t s < (mk t : Int))) (p : ∀ h', fr 2 8 h h' → RC (tkP t s q) h' → P 0 h') : Cl shC mX1_takePlace [pR 1, pI (s : Int), pI (q : Int)] h P := by
  have hm := R.m
  have hs1 : s < mk t := by have := hs.2.1; omega
  have hq1 : q < mk t := by have := hq.2.1; omega
  refine sX1_takePlace_0 (c_Rows_isStep R _ ⟨fun c => absurd hs (b2_0.mp c), fun _ => c_Rows_isStep R _ ⟨fun _ => c_loosen R hq1 hu (fun h1 x1 R1 => ⟨s, rfl, by omega, ?_⟩), fun c => absurd hq (b2_0.mp c)⟩⟩)
  have e2 := lsn_2 t q
  have em : mk (lsn t q) = mk t := by unfold mk; rw [e2]
  have er : rt (lsn t q) = rt t := by unfold rt; rw [e2]
  have eus : up (lsn t q) s = up t s := lsn_0 t q 3 s (by decide) (Or.inr hne)
  rw [R1.u (by omega)]
  refine ⟨fun c => ?_, fun c => c_ownerOf R1 _ (c_setBody R1 _ _ (fun h2 x2 R2 => p h2 (x1.tr x2) ?_))⟩
  · rw [eus] at c
    have hus := hus.resolve_left c
    obtain ⟨a, ha⟩ := Int.eq_ofNat_of_zero_le hus.1
    have e3 : tkP t s q = tw (tw (rpl (lsn t q) a 3 s q) 3 q a) 3 s (-4) := by
      unfold tkP
      rw [eus, if_neg c, ha]
      rfl
    rw [e3] at p
    rw [eus, ha]
    have key : ∀ (n i : Nat) (h2 : Hp), i + n = 3 → fr 2 8 h h2 → RC (rpl (lsn t q) a i s q) h2 → Ok shC 0 0 mX1_takePlace 58 [some (pR 1), some (pI (s : Int)), some (pI (q : Int)), some (pI (a : Int)), some (pI (i : Int))] [] h2 P := by
      intro n
      induction n with
      | zero =>
        intro i h2 hi x R2
        have e : i = 3 := hi
        subst e
        exact sX1_takePlace_58 ⟨fun _ => ⟨q, rfl, by omega, ⟨s, rfl, by omega, p _ ((x.A ⟨by decide, by decide⟩).A ⟨by decide, by decide⟩) ((R2.wr (ro := 3) (by decide) _ _).wr (ro := 3) (by decide) _ _)⟩⟩, fun c => absurd (Int.le_refl 3) c⟩
      | succ n ih =>
        intro i h2 hi x R2
        have hs := rpl_step (lsn t q) a i (by omega) s q
        refine sX1_takePlace_58 ⟨fun c => absurd c (by omega), fun _ => c_partOf R2 _ _ ?_⟩
        have e : ptI (rpl (lsn t q) a i s q) (a : Int) (i : Int) = (lsn t q).1 2 (3 * a + i) := by
          rw [ptI_at (t := rpl (lsn t q) a i s q) (s := a) (k := i) (show a < mk (lsn t q) by omega) (by omega)]
          exact rpl_pt (lsn t q) a i s q (by omega)
        rw [e]
        refine ⟨fun c => ⟨by unfold inR; omega, ?_⟩, fun c => ⟨by unfold inR; omega, by unfold inR; omega, ⟨3 * a + i, by omega, by omega, by unfold inR; omega, ?_⟩⟩⟩
        · rw [if_neg c] at hs
          exact ih (i + 1) h2 (by omega) x (by rw [hs]; exact R2)
        · rw [if_pos c] at hs
          exact ih (i + 1) _ (by omega) (x.A ⟨by decide, by decide⟩) (by rw [hs]; exact R2.wr (ro := 2) (by decide) _ _)
    exact key 3 0 h1 rfl x1 (by rw [rpl_0]; exact R1)
  · unfold tkP
    rw [if_pos c]
    rcases owF_ge (lsn t q) s (rt (lsn t q)) 0 with e | ⟨k, e, -, h4, -⟩
    · have e : ow (lsn t q) s = -4 := e
      rw [e] at R2 ⊢
      rw [if_neg (by omega)] at R2 ⊢
      exact R2
    · have e : ow (lsn t q) s = (k : Int) := e
      rw [e] at R2 ⊢
      rw [if_pos (by omega)] at R2 ⊢
      exact R2
theorem eT_2 : ∀ (D : List (Nat × Nat)) (t : TV), (eT t D).2 = t.2
  | [], _ => rfl
  | q :: D, t => by
    show (eT (clr t q.1 (-1) 0) D).2 = t.2
    rw [eT_2 D]
    rfl
theorem c_endTree (R : RC t h) {z : Nat} (hz : al t z → tr t 40 z) (p : ∀ h', fr 2 13 h h' → RC (eT t (plist t z)) h' → P 0 h') : Cl shC mX1_endTree [pR 1, pI (z : Int)] h P := by
  have hm := R.m
  have hlen := plist_len (t := t) (z := (z : Int)) hz
  refine sX1_endTree_0 (c_over isW9 R _ hz (fun h' x hs hD => ?_))
  have R' := R.wk isW9 x
  have hmem : ∀ q ∈ plist t (z : Int), q.1 < mk t := by
    intro q hq
    unfold plist at hq
    split at hq
    · rename_i ha
      exact (tr_at (pre_in (x := q.1) (dx := q.2) hq (hz ha)).2.2).1
    · cases hq
  have key : ∀ (D2 D1 : List (Nat × Nat)) (h1 : Hp), D1 ++ D2 = plist t (z : Int) → fr 2 13 h h1 → DA h1 10 11 (plist t (z : Int)) → h1.2.1 9 4 = ((plist t (z : Int)).length : Int) → RC (eT t D1) h1 → Ok shC 0 0 mX1_endTree 14 [some (pR 1), none, some (pI (D1.length : Int))] [] h1 P := by
    intro D2
    induction D2 with
    | nil =>
      intro D1 h1 he x1 hD1 hs1 R1
      rw [List.append_nil] at he
      rw [he] at R1 ⊢
      exact sX1_endTree_14 ⟨fun _ => p h1 x1 R1, fun c => absurd (by rw [hs1]; exact Int.le_refl _) c⟩
    | cons q D2 ih =>
      intro D1 h1 he x1 hD1 hs1 R1
      have hl : D1.length < (plist t (z : Int)).length := by rw [← he]; simp
      have hq : (plist t (z : Int))[D1.length]? = some q := by rw [← he]; simp
      have hqm := hmem q (List.mem_of_getElem? hq)
      refine sX1_endTree_14 ⟨fun c => absurd c (by omega), fun _ => ⟨D1.length, rfl, by omega, ?_⟩⟩
      rw [(hD1 _ _ hq).1]
      refine c_clear R1 (by omega) (-1) 0 (fun h2 x2 R2 e1 _ _ _ e5 => ⟨by unfold inR; omega, ?_⟩)
      have := ih (D1 ++ [q]) h2 (by rw [← he]; simp) (x1.tr (x2.wd (by decide) (by decide))) (DA_eq hD1 (fun j _ => by rw [e1 10 (by decide), e1 11 (by decide)]; exact ⟨rfl, rfl⟩)) (by rw [e5]; exact hs1) (by
        have : eT t (D1 ++ [q]) = clr (eT t D1) q.1 (-1) 0 := by simp [eT]
        rw [this]
        exact R2)
      rw [List.length_append] at this
      exact this
  exact key (plist t (z : Int)) [] h' rfl (x.wd (by decide) (by decide)) hD hs R'
end CO
