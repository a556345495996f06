/-! THE WHOLE STATE: code, counts, row, what can be undone (oldest first), what the latest run came to, what was laid out -/
abbrev St : Type := TV × ((Nat → Int) × ((Nat → Int) × (List TV × ((Nat → Int) × Option (Int × (Int × List Int))))))
abbrev sT (st : St) : TV := st.1
abbrev sN (st : St) : Nat → Int := st.2.1
abbrev sW (st : St) : Nat → Int := st.2.2.1
abbrev sU (st : St) : List TV := st.2.2.2.1
abbrev sQ (st : St) : Nat → Int := st.2.2.2.2.1
abbrev sL (st : St) : Option (Int × (Int × List Int)) := st.2.2.2.2.2
/-- the undone state is one of the same routines -/
def kin (t u : TV) : Prop := WF u ∧ rt u = rt t ∧ (∀ r, r < rt t → pr u r = pr t r) ∧ mk u ≤ mk t
def WS (st : St) : Prop :=
  WF (sT st) ∧ (sU st).length ≤ 12 ∧ (∀ u ∈ sU st, kin (sT st) u) ∧ (∀ s, mk (sT st) ≤ s → sN st s = 0) ∧ (0 ≤ sQ st 4 ∧ sQ st 4 ≤ 62000) ∧ ∀ x, sL st = some x → x.2.2.length ≤ 12
/-- the class's other cells -/
def LC (l : Option (Int × (Int × List Int))) (h : Hp) : Prop := match l with
  | none => h.2.1 40 12 = -4
  | some x => h.2.1 40 10 = x.1 ∧ h.2.1 40 11 = x.2.1 ∧ h.2.1 40 12 = (x.2.2.length : Int) ∧ ∀ i z, x.2.2[i]? = some z → h.1 44 i = z
def CX (st : St) (h : Hp) : Prop :=
  (∀ s, s < 600 → h.1 20 s = sN st s) ∧ (∀ i, i < 8 → h.1 21 i = sW st i) ∧ (h.2.1 19 14 = sQ st 0 ∧ h.2.1 19 15 = sQ st 1 ∧ h.2.1 19 16 = sQ st 2 ∧ h.2.1 19 17 = sQ st 3 ∧ h.2.1 19 12 = sQ st 4) ∧ LC (sL st) h
def slot (o : Nat) (u : TV) (h : Hp) : Prop := h.2.1 o 6 = (mk u : Int) ∧ h.2.1 o 7 = (rt u : Int) ∧ Hd (fun i => o + 1 + i) u h
def CPf (us : List TV) (f : Nat) (h : Hp) : Prop := h.2.1 38 1 = (f : Int) ∧ f < 13 ∧ h.2.1 38 2 = (us.length : Int) ∧ us.length ≤ 12 ∧ (f = 0 → us.length ≤ h.2.2) ∧ (f ≠ 0 → h.2.2 = 13) ∧ h.2.2 ≤ 13 ∧ ∀ i u, us[i]? = some u → slot (46 + 7 * ((f + i) % 13)) u h
def CP (us : List TV) (h : Hp) : Prop := ∃ f, CPf us f h
def RelC (st : St) (h : Hp) : Prop := RC (sT st) h ∧ CX st h ∧ CP (sU st) h
/-- the reference's other cells -/
def LM (l : Option (Int × (Int × List Int))) (g : Hp) : Prop := match l with
  | none => g.2.1 0 41 = 0
  | some x => g.2.1 0 41 = 1 ∧ g.2.1 0 42 = x.1 ∧ g.2.1 0 43 = x.2.1 ∧ g.2.1 0 44 = (x.2.2.length : Int) ∧ ∀ i z, x.2.2[i]? = some z → g.1 27 i = z
def MX (st : St) (g : Hp) : Prop :=
  (∀ s, s < 600 → g.1 5 s = sN st s) ∧ (∀ i, i < 8 → g.1 8 i = sW st i) ∧ (g.2.1 0 26 = sQ st 0 ∧ g.2.1 0 24 = sQ st 1 ∧ g.2.1 0 27 = sQ st 2 ∧ (if g.2.1 0 31 = 0 then 0 else g.2.1 0 28) = sQ st 3 ∧ g.2.1 0 30 = sQ st 4) ∧ LM (sL st) g
def keptS (i : Nat) (u : TV) (g : Hp) : Prop := g.1 19 i = (mk u : Int) ∧ (∀ s, s < mk u → g.1 20 (3600 * i + 6 * s) = kd u s ∧ g.1 20 (3600 * i + 6 * s + 1) = nm u s ∧ g.1 20 (3600 * i + 6 * s + 2) = up u s ∧ ∀ k, k < 3 → g.1 20 (3600 * i + 6 * s + 3 + k) = pt u s k) ∧ ∀ r, r < rt u → g.1 21 (10 * i + r) = bd u r
def MP (us : List TV) (g : Hp) : Prop := g.2.1 0 13 = (us.length : Int) ∧ ∀ i u, us[i]? = some u → keptS i u g
def RelM (st : St) (g : Hp) : Prop := RM (sT st) g ∧ MX st g ∧ MP (sU st) g
/-- a method of the class and one of the reference answer alike, and what they leave is one state -/
def Sim (st : St) (F G : MI) (av : List PV) : Prop := ∀ h g, RelC st h → RelM st g → ∃ (r : Int) (st' : St), WS st' ∧ Cl shC F (pR 0 :: av) h (fun q h' => q = r ∧ RelC st' h') ∧ Cl shM G (pR 0 :: av) g (fun q g' => q = r ∧ RelM st' g')
def Sim1 (st : St) (F G : MI) (av : List PV) : Prop := ∀ h g, RelC st h → RelM st g → ∃ (r : Int) (st' : St), WS st' ∧ Cl1 shC F (pR 0 :: av) h (fun q h' => q = r ∧ RelC st' h') ∧ Cl shM G (pR 0 :: av) g (fun q g' => q = r ∧ RelM st' g')
theorem LC.kp {l : Option (Int × (Int × List Int))} {h h' : Hp} (x : LC l h) (e : h'.2.1 40 = h.2.1 40) (e4 : h'.1 44 = h.1 44) : LC l h' := by
  cases l with
  | none => exact (congrFun e 12).trans x
  | some x0 =>
    obtain ⟨x1, x2, x3, x4⟩ := x
    exact ⟨(congrFun e 10).trans x1, (congrFun e 11).trans x2, (congrFun e 12).trans x3, fun i z hz => (congrFun e4 i).trans (x4 i z hz)⟩
theorem CX.kp {st : St} {h h' : Hp} (x : CX st h) (e19 : h'.2.1 19 = h.2.1 19) (e20 : h'.1 20 = h.1 20) (e21 : h'.1 21 = h.1 21) (e40 : h'.2.1 40 = h.2.1 40) (e44 : h'.1 44 = h.1 44) : CX st h' := by
  obtain ⟨x1, x2, x3, x4⟩ := x
  refine ⟨fun s hs => ?_, fun i hi => ?_, ?_, x4.kp e40 e44⟩
  · rw [e20]
    exact x1 s hs
  · rw [e21]
    exact x2 i hi
  · rw [e19]
    exact x3
theorem CX.fw {st : St} {h h' : Hp} {lo hi : Nat} (x : CX st h) (f : fr lo hi h h') (hl : hi < 19 ∨ 44 < lo ∨ (21 < lo ∧ hi < 40)) : CX st h' :=
  x.kp (f.i (by omega)) (f.a (by omega)) (f.a (by omega)) (f.i (by omega)) (f.a (by omega))
theorem slot.kp {o : Nat} {u : TV} {h h' : Hp} (x : slot o u h) (ei : h'.2.1 o = h.2.1 o) (ea : ∀ i, i < 6 → h'.1 (o + 1 + i) = h.1 (o + 1 + i)) : slot o u h' := by
  obtain ⟨x1, x2, x3, x4, x5, x6, x7⟩ := x
  refine ⟨by rw [ei]; exact x1, by rw [ei]; exact x2, x3, x4, fun s hs => ?_, fun j hj => ?_, fun r hr => ?_⟩
  · rw [ea 0 (by decide), ea 1 (by decide), ea 3 (by decide)]
    exact x5 s hs
  · rw [ea 2 (by decide)]
    exact x6 j hj
  · rw [ea 4 (by decide), ea 5 (by decide)]
    exact x7 r hr
theorem CPf.kp {us : List TV} {f : Nat} {h h' : Hp} (x : CPf us f h) (e38 : h'.2.1 38 = h.2.1 38) (ec : h'.2.2 = h.2.2) (ea : ∀ a, 46 ≤ a → h'.1 a = h.1 a ∧ h'.2.1 a = h.2.1 a) : CPf us f h' := by
  obtain ⟨x1, x2, x3, x4, x5, x6, x7, x8⟩ := x
  refine ⟨by rw [e38]; exact x1, x2, by rw [e38]; exact x3, x4, by rw [ec]; exact x5, by rw [ec]; exact x6, by rw [ec]; exact x7, fun i u hu => ?_⟩
  exact (x8 i u hu).kp (ea _ (by omega)).2 (fun j hj => (ea _ (by omega)).1)
theorem CP.kp {us : List TV} {h h' : Hp} (x : CP us h) (e38 : h'.2.1 38 = h.2.1 38) (ec : h'.2.2 = h.2.2) (ea : ∀ a, 46 ≤ a → h'.1 a = h.1 a ∧ h'.2.1 a = h.2.1 a) : CP us h' := by
  obtain ⟨f, x⟩ := x
  exact ⟨f, x.kp e38 ec ea⟩
theorem CP.fw {us : List TV} {h h' : Hp} {lo hi : Nat} (x : CP us h) (f : fr lo hi h h') (hl : hi < 38 ∨ (38 < lo ∧ hi < 46)) : CP us h' :=
  x.kp (f.i (by omega)) f.2 (fun a ha => f.1 a (by omega))
/-- what is read alone -/
theorem RelC.rd {st : St} {h h' : Hp} {lo hi : Nat} (x : RelC st h) (f : fr lo hi h h') (hl : 8 < lo ∧ hi < 19) : RelC st h' :=
  ⟨x.1.kp f (Or.inl hl.1), x.2.1.fw f (Or.inl hl.2), x.2.2.fw f (Or.inl (by omega))⟩
/-- all that can be undone is forgotten -/
theorem CP.fg {us : List TV} {h : Hp} (x : CP us h) : CP [] (hI h 38 2 0) := by
  obtain ⟨f, x1, x2, x3, x4, x5, x6, x7, x8⟩ := x
  refine ⟨f, ?_, x2, ?_, by decide, fun _ => Nat.zero_le _, x6, x7, fun i u hu => by cases hu⟩
  · show (hI h 38 2 0).2.1 38 1 = _
    rw [hI_at, if_neg (by omega)]
    exact x1
  · show (hI h 38 2 0).2.1 38 2 = _
    rw [hI_at, if_pos ⟨rfl, rfl⟩]
    rfl
theorem RelC.tell {st : St} {t' : TV} {h h' : Hp} (x : RelC st h) (f : fr 2 18 h h') (R : RC t' h') : RelC (t', sN st, sW st, [], sQ st, sL st) (hI h' 38 2 0) := by
  refine ⟨?_, ?_, (x.2.2.fw f (Or.inl (by decide))).fg⟩
  · exact R.kp (fr.rf.I (lo := 38) (hi := 38) ⟨by decide, by decide⟩) (Or.inl (by decide))
  · have h1 : CX (t', sN st, sW st, [], sQ st, sL st) h := x.2.1
    exact (h1.fw f (Or.inl (by decide))).fw (fr.rf.I (lo := 38) (hi := 38) (k := 2) (z := 0) ⟨by decide, by decide⟩) (Or.inr (Or.inr ⟨by decide, by decide⟩))
theorem LM.kp {l : Option (Int × (Int × List Int))} {g g' : Hp} (x : LM l g) (e : ∀ k, 41 ≤ k → g'.2.1 0 k = g.2.1 0 k) (e4 : g'.1 27 = g.1 27) : LM l g' := by
  cases l with
  | none => exact (e 41 (by decide)).trans x
  | some x0 =>
    obtain ⟨x1, x2, x3, x4, x5⟩ := x
    exact ⟨(e 41 (by decide)).trans x1, (e 42 (by decide)).trans x2, (e 43 (by decide)).trans x3, (e 44 (by decide)).trans x4, fun i z hz => (congrFun e4 i).trans (x5 i z hz)⟩
theorem MX.kp {st : St} {g g' : Hp} (x : MX st g) (e5 : ∀ s, s < 600 → g'.1 5 s = g.1 5 s) (e8 : g'.1 8 = g.1 8) (e27 : g'.1 27 = g.1 27) (ei : ∀ k, 24 ≤ k → g'.2.1 0 k = g.2.1 0 k) : MX st g' := by
  obtain ⟨x1, x2, ⟨x3, x4, x5, x6, x7⟩, x8⟩ := x
  refine ⟨fun s hs => (e5 s hs).trans (x1 s hs), fun i hi => by rw [e8]; exact x2 i hi, ⟨(ei 26 (by decide)).trans x3, (ei 24 (by decide)).trans x4, (ei 27 (by decide)).trans x5, ?_, (ei 30 (by decide)).trans x7⟩, x8.kp (fun k hk => ei k (by omega)) e27⟩
  rw [ei 31 (by decide), ei 28 (by decide)]
  exact x6
theorem keptS.kp {i : Nat} {u : TV} {g g' : Hp} (x : keptS i u g) (e19 : g'.1 19 = g.1 19) (e20 : g'.1 20 = g.1 20) (e21 : g'.1 21 = g.1 21) : keptS i u g' := by
  unfold keptS
  rw [e19, e20, e21]
  exact x
theorem MP.kp {us : List TV} {g g' : Hp} (x : MP us g) (e13 : g'.2.1 0 13 = g.2.1 0 13) (e19 : g'.1 19 = g.1 19) (e20 : g'.1 20 = g.1 20) (e21 : g'.1 21 = g.1 21) : MP us g' :=
  ⟨e13.trans x.1, fun i u hu => (x.2 i u hu).kp e19 e20 e21⟩
theorem RelM.rd {st : St} {g g' : Hp} {lo hi : Nat} (x : RelM st g) (f : fm lo hi g g') (hl : 8 < lo ∧ hi < 19) : RelM st g' :=
  ⟨x.1.kp f (by omega), x.2.1.kp (fun s _ => by rw [f.a (by omega)]) (f.a (by omega)) (f.a (by omega)) (fun k _ => by rw [f.2]), x.2.2.kp (by rw [f.2]) (f.a (by omega)) (f.a (by omega)) (f.a (by omega))⟩
theorem RelM.tell {st : St} {t' : TV} {g g' : Hp} (x : RelM st g) (w : WS st) (f : gf 1 11 g g') (c : cz (mk (sT st)) g g') (R : RM t' g') : RelM (t', sN st, sW st, [], sQ st, sL st) (hI g' 0 13 0) := by
  have e : ∀ k, k ≠ 0 → g'.2.1 0 k = g.2.1 0 k := fun k hk => f.2.1 0 k (by omega)
  refine ⟨⟨?_, ?_, R.2.2⟩, ?_, ?_, fun i u hu => by cases hu⟩
  · show (hI g' 0 13 0).2.1 0 0 = _
    rw [hI_at, if_neg (by omega)]
    exact R.1
  · show (hI g' 0 13 0).2.1 0 6 = _
    rw [hI_at, if_neg (by omega)]
    exact R.2.1
  · have h1 : MX (t', sN st, sW st, [], sQ st, sL st) g := x.2.1
    refine h1.kp (fun s hs => ?_) c.2 (f.1 27 (by decide)) (fun k hk => ?_)
    · rcases c.1 s with e5 | ⟨e1, e2⟩
      · exact e5
      · have h2 := w.2.2.2.1 s e1
        have h3 := x.2.1.1 s hs
        show g'.1 5 s = _
        rw [e2, h3, h2]
    · show (hI g' 0 13 0).2.1 0 k = _
      rw [hI_at, if_neg (by omega)]
      exact e k (by omega)
  · show (hI g' 0 13 0).2.1 0 13 = _
    rw [hI_at, if_pos ⟨rfl, rfl⟩]
    rfl
