/-! CHOICE: the calls that are looked at -/
section LK
variable {t : TV} {st : St}
abbrev lkc (t : TV) (r : Int) (s : Nat) : Prop := kd t s = 6 ∧ nm t s ≠ r ∧ bdI t (nm t s) ≠ -4 ∧ home t (s : Int) = r
def lkN (t : TV) (r : Int) : Nat → List Nat
  | 0 => []
  | n + 1 => if (lkN t r n).length < 12 ∧ lkc t r n then lkN t r n ++ [n] else lkN t r n
theorem lk_len (t : TV) (r : Int) : ∀ n, (lkN t r n).length ≤ 12
  | 0 => Nat.zero_le _
  | n + 1 => by
    rw [lkN]
    split
    · rename_i c
      rw [List.length_append]
      have := c.1
      show _ + 1 ≤ 12
      omega
    · exact lk_len t r n
theorem lk_stop {r : Int} {n : Nat} (h : (lkN t r n).length = 12) : ∀ k, lkN t r (n + k) = lkN t r n
  | 0 => rfl
  | k + 1 => by
    rw [← Nat.add_assoc, lkN, if_neg (fun c => by rw [lk_stop h k, h] at c; exact absurd c.1 (by decide))]
    exact lk_stop h k
theorem lk_mem {r : Int} : ∀ {n s : Nat}, s ∈ lkN t r n → s < n ∧ lkc t r s
  | n + 1, s, h => by
    rw [lkN] at h
    split at h
    · rename_i c
      rcases List.mem_append.mp h with h | h
      · have := lk_mem h
        exact ⟨by omega, this.2⟩
      · rw [List.mem_singleton] at h
        subst h
        exact ⟨by omega, c.2⟩
    · have := lk_mem h
      exact ⟨by omega, this.2⟩
/-- what choosing may change: walks, its own rows -/
def cf (h h' : Hp) : Prop := (∀ a, a < 9 ∨ (13 < a ∧ a < 41) ∨ 45 < a → h'.1 a = h.1 a) ∧ (∀ a, a < 9 ∨ (13 < a ∧ a ≠ 40) → h'.2.1 a = h.2.1 a) ∧ h'.2.2 = h.2.2
theorem cf.rf {h : Hp} : cf h h := ⟨fun _ _ => rfl, fun _ _ => rfl, rfl⟩
theorem cf.tr {h h1 h2 : Hp} (x : cf h h1) (y : cf h1 h2) : cf h h2 := ⟨fun a ha => (y.1 a ha).trans (x.1 a ha), fun a ha => (y.2.1 a ha).trans (x.2.1 a ha), y.2.2.trans x.2.2⟩
theorem fr.cf {h h' : Hp} (x : fr 9 13 h h') : cf h h' := ⟨fun a ha => x.a (by omega), fun a ha => x.i (by omega), x.2⟩
theorem cf.A {h h1 : Hp} (x : cf h h1) {a i : Nat} {z : Int} (ha : 41 ≤ a ∧ a ≤ 45) : cf h (hA h1 a i z) := ⟨fun b hb => by
    rw [← x.1 b hb]
    funext j
    rw [hA_at, if_neg (by omega)], x.2.1, x.2.2⟩
theorem cf.I {h h1 : Hp} (x : cf h h1) {k : Nat} {z : Int} : cf h (hI h1 40 k z) := ⟨x.1, fun a ha => by
    rw [← x.2.1 a ha]
    funext j
    rw [hI_at, if_neg (by omega)], x.2.2⟩
theorem cf.rc {h h' : Hp} (x : cf h h') (R : RC t h) : RC t h' := by
  obtain ⟨r1, r2, r3, r4, r5, r6, r7⟩ := R
  have e2 := x.2.1 2 (by decide)
  have e : ∀ i, i < 6 → h'.1 (ρC i) = h.1 (ρC i) := fun i hi => x.1 (3 + i) (by omega)
  refine ⟨by rw [e2]; exact r1, by rw [e2]; exact r2, r3, r4, fun s hs => ?_, fun j hj => ?_, fun r hr => ?_⟩
  · rw [e 0 (by decide), e 1 (by decide), e 3 (by decide)]; exact r5 s hs
  · rw [e 2 (by decide)]; exact r6 j hj
  · rw [e 4 (by decide), e 5 (by decide)]; exact r7 r hr
theorem cf.rel {h h' : Hp} (x : cf h h') (R : RelC st h) {l : Option (Int × (Int × List Int))} (L : LC l h') : RelC (sT st, sN st, sW st, sU st, sQ st, l) h' := by
  refine ⟨x.rc R.1, ⟨fun s hs => ?_, fun i hi => ?_, ?_, L⟩, R.2.2.kp (x.2.1 38 (by decide)) x.2.2 (fun a ha => ⟨x.1 a (by omega), x.2.1 a (by omega)⟩)⟩
  · rw [x.1 20 (by decide)]
    exact R.2.1.1 s hs
  · rw [x.1 21 (by decide)]
    exact R.2.1.2.1 i hi
  · rw [x.2.1 19 (by decide)]
    exact R.2.1.2.2.1
/-- the rows hold a list of calls, what each gains and weighs -/
def LKc (st : St) (L : List Nat) (h : Hp) : Prop := h.2.1 40 8 = (L.length : Int) ∧ ∀ (i s : Nat), L[i]? = some s → h.1 41 i = (s : Int) ∧ h.1 42 i = wr (4 * sN st s) ∧ h.1 43 i = wgt (sT st) s
theorem lk_snoc {p : Nat → Nat → Prop} {L : List Nat} {s : Nat} (h : ∀ i x, L[i]? = some x → p i x) (h2 : p L.length s) : ∀ i x, (L ++ [s])[i]? = some x → p i x := by
  intro i x hi
  by_cases hl : i < L.length
  · rw [List.getElem?_append_left hl] at hi
    exact h i x hi
  · rw [List.getElem?_append_right (by omega)] at hi
    have h0 : i - L.length = 0 := by
      have := (List.getElem?_eq_some_iff.mp hi).1
      simp at this
      omega
    rw [h0] at hi
    cases hi
    rw [show i = L.length by omega]
    exact h2
theorem c_lookAt {h : Hp} {P : Int → Hp → Prop} (w : WS st) (R : RelC st h) (r : Int) (p : ∀ h', cf h h' → h'.1 44 = h.1 44 → (∀ k, 9 ≤ k → h'.2.1 40 k = h.2.1 40 k) → LKc st (lkN (sT st) r (mk (sT st))) h' → P 0 h') : Cl shC mX0_lookAt [pR 40, pI r] h P := by
  have hm := w.1.m
  have key : ∀ (n j : Nat) (h1 : Hp), j + n = mk (sT st) → cf h h1 → h1.1 44 = h.1 44 → (∀ k, 9 ≤ k → h1.2.1 40 k = h.2.1 40 k) → LKc st (lkN (sT st) r j) h1 → Ok shC 0 0 mX0_lookAt 7 [some (pR 40), some (pI r), some (pI (j : Int)), none] [] h1 P := by
    intro n
    induction n with
    | zero =>
      intro j h1 hj x e44 e40 L
      have R1 := x.rc R.1
      have e : j = mk (sT st) := hj
      subst e
      refine sX0_lookAt_7 ?_
      rw [R1.1]
      exact ⟨fun _ => p h1 x e44 e40 L, fun c => absurd (Int.le_refl _) c⟩
    | succ n ih =>
      intro j h1 hj x e44 e40 L
      have R1 := x.rc R.1
      have hl := lk_len (sT st) r j
      have s1 : lkN (sT st) r (j + 1) = if (lkN (sT st) r j).length < 12 ∧ lkc (sT st) r j then lkN (sT st) r j ++ [j] else lkN (sT st) r j := rfl
      have skip : ¬ lkc (sT st) r j → inR ((j : Int) + 1) ∧ Ok shC 0 0 mX0_lookAt 7 [some (pR 40), some (pI r), some (pI ((j : Int) + 1)), none] [] h1 P := fun c => by
        rw [if_neg (fun q => c q.2)] at s1
        exact ⟨by unfold inR; omega, ih (j + 1) h1 (by omega) x e44 e40 (by rw [s1]; exact L)⟩
      refine sX0_lookAt_7 ?_
      rw [R1.1, L.1]
      refine ⟨fun c => absurd c (by omega), fun _ => ⟨fun c => ?_, fun c => c_kindOf R1 _ ?_⟩⟩
      · have := lk_stop (t := sT st) (r := r) (n := j) (by omega) (n + 1)
        rw [hj] at this
        exact p h1 x e44 e40 (by rw [this]; exact L)
      · rw [kdI_at (by omega)]
        refine ⟨fun c1 => skip (fun q => c1 q.1), fun c1 => c_numberOf R1 _ ?_⟩
        rw [nmI_at (by omega)]
        refine ⟨fun c2 => skip (fun q => q.2.1 c2), fun c2 => c_numberOf R1 _ ?_⟩
        rw [nmI_at (by omega)]
        refine c_isMissing R1 _ ⟨fun c3 => skip (fun q => q.2.2.1 (b2_n0.mp c3)), fun c3 => c_routineOf R1 _ ⟨fun c4 => skip (fun q => c4 q.2.2.2), fun c4 => ?_⟩⟩
        rw [if_pos ⟨by omega, c1, c2, b2_0.mp c3, c4⟩] at s1
        refine ⟨(lkN (sT st) r j).length, L.1, by omega, sX2_gainOf_0 (sX2_countOf_0 ⟨fun c => absurd c (by omega), fun _ => ⟨fun c => absurd c (by omega), fun _ => ⟨j, rfl, by omega, ?_⟩⟩⟩)⟩
        have e20 : (hA h1 41 (lkN (sT st) r j).length (j : Int)).1 20 j = sN st j := by
          rw [hA_at, if_neg (by omega), x.1 20 (by decide)]
          exact R.2.1.1 j (by omega)
        rw [e20]
        have R2 : RC (sT st) (hA (hA h1 41 (lkN (sT st) r j).length (j : Int)) 42 (lkN (sT st) r j).length (wr (4 * sN st j))) := ((x.A (by decide)).A (by decide) : cf h _).rc R.1
        refine c_weightOf w.1 R2 (by omega) (fun h2 x2 => ?_)
        have e8 : h2.2.1 40 8 = ((lkN (sT st) r j).length : Int) := by
          rw [x2.i (by decide)]
          exact L.1
        refine ⟨(lkN (sT st) r j).length, L.1, by omega, by rw [e8]; unfold inR; omega, by unfold inR; omega, ?_⟩
        rw [e8]
        refine ih (j + 1) _ (by omega) ((((x.A (by decide)).A (by decide)).tr x2.cf).A (by decide)).I ?_ (fun k hk => ?_) ⟨?_, ?_⟩
        · show (hA h2 43 (lkN (sT st) r j).length (wgt (sT st) j)).1 44 = _
          rw [← e44]
          funext i
          rw [hA_at, if_neg (by omega), x2.a (by decide), hA_at, if_neg (by omega), hA_at, if_neg (by omega)]
        · rw [hI_at, if_neg (by omega)]
          show h2.2.1 40 k = _
          rw [x2.i (by decide)]
          exact e40 k hk
        · rw [hI_at, if_pos ⟨rfl, rfl⟩, s1, List.length_append]
          rfl
        · rw [s1]
          refine lk_snoc (p := fun i s => _ = (s : Int) ∧ _ = wr (4 * sN st s) ∧ _ = wgt (sT st) s) (fun i s hi => ?_) ?_
          · have hil := (List.getElem?_eq_some_iff.mp hi).1
            have hL := L.2 i s hi
            refine ⟨?_, ?_, ?_⟩
            · rw [hI_a, hA_at, if_neg (by omega), x2.a (by decide), hA_at, if_neg (by omega), hA_at, if_neg (by omega)]
              exact hL.1
            · rw [hI_a, hA_at, if_neg (by omega), x2.a (by decide), hA_at, if_neg (by omega), hA_at, if_neg (by omega)]
              exact hL.2.1
            · rw [hI_a, hA_at, if_neg (by omega), x2.a (by decide), hA_at, if_neg (by omega), hA_at, if_neg (by omega)]
              exact hL.2.2
          · refine ⟨?_, ?_, ?_⟩
            · rw [hI_a, hA_at, if_neg (by omega), x2.a (by decide), hA_at, if_neg (by omega), hA_at, if_pos ⟨rfl, rfl⟩]
            · rw [hI_a, hA_at, if_neg (by omega), x2.a (by decide), hA_at, if_pos ⟨rfl, rfl⟩]
            · rw [hI_a, hA_at, if_pos ⟨rfl, rfl⟩]
  refine sX0_lookAt_0 (key (mk (sT st)) 0 _ (by omega) cf.rf.I rfl (fun k hk => ?_) ⟨?_, fun i s hi => by simp [lkN] at hi⟩)
  · rw [hI_at, if_neg (by omega)]
  · rw [hI_at, if_pos ⟨rfl, rfl⟩]
    rfl
/-- what the reference's choosing may change -/
def mf (g g' : Hp) : Prop := (∀ a, a < 9 ∨ (11 < a ∧ a < 24) ∨ 27 < a → g'.1 a = g.1 a) ∧ (∀ o k, ¬ (o = 0 ∧ (k = 37 ∨ 41 ≤ k)) → g'.2.1 o k = g.2.1 o k) ∧ g'.2.2 = g.2.2
theorem mf.rf {g : Hp} : mf g g := ⟨fun _ _ => rfl, fun _ _ _ => rfl, rfl⟩
theorem mf.tr {h h1 h2 : Hp} (x : mf h h1) (y : mf h1 h2) : mf h h2 := ⟨fun a ha => (y.1 a ha).trans (x.1 a ha), fun o k q => (y.2.1 o k q).trans (x.2.1 o k q), y.2.2.trans x.2.2⟩
theorem fm.mf {h h' : Hp} (x : fm 9 11 h h') : mf h h' := ⟨fun a ha => x.a (by omega), fun o k _ => by rw [x.2], by rw [x.2]⟩
theorem mf.A {h h1 : Hp} (x : mf h h1) {a i : Nat} {z : Int} (ha : 24 ≤ a ∧ a ≤ 27) : mf h (hA h1 a i z) := ⟨fun b hb => by
    rw [← x.1 b hb]
    funext j
    rw [hA_at, if_neg (by omega)], x.2⟩
theorem mf.I {h h1 : Hp} (x : mf h h1) {k : Nat} {z : Int} (hk : k = 37 ∨ 41 ≤ k) : mf h (hI h1 0 k z) := ⟨x.1, fun o j q => by
    rw [hI_at, if_neg (fun c => q ⟨c.1, by omega⟩)]
    exact x.2.1 o j q, x.2.2⟩
theorem mf.rm {g g' : Hp} (x : mf g g') (R : RM t g) : RM t g' := by
  obtain ⟨r1, r2, r3, r4, r5, r6, r7⟩ := R
  have e : ∀ i, i < 6 → g'.1 (ρM i) = g.1 (ρM i) := fun i hi => x.1 _ (Or.inl (by rcases (by omega : i = 0 ∨ i = 1 ∨ i = 2 ∨ i = 3 ∨ i = 4 ∨ i = 5) with rfl | rfl | rfl | rfl | rfl | rfl <;> decide))
  refine ⟨(x.2.1 0 0 (by omega)).trans r1, (x.2.1 0 6 (by omega)).trans r2, r3, r4, fun s hs => ?_, fun j hj => ?_, fun q hq => ?_⟩
  · rw [e 0 (by decide), e 1 (by decide), e 3 (by decide)]; exact r5 s hs
  · rw [e 2 (by decide)]; exact r6 j hj
  · rw [e 4 (by decide), e 5 (by decide)]; exact r7 q hq
theorem mf.rel {g g' : Hp} (x : mf g g') (M : RelM st g) {l : Option (Int × (Int × List Int))} (L : LM l g') : RelM (sT st, sN st, sW st, sU st, sQ st, l) g' := by
  obtain ⟨x1, x2, ⟨x3, x4, x5, x6, x7⟩, x8⟩ := M.2.1
  refine ⟨x.rm M.1, ⟨fun s hs => ?_, fun i hi => ?_, ⟨(x.2.1 0 26 (by omega)).trans x3, (x.2.1 0 24 (by omega)).trans x4, (x.2.1 0 27 (by omega)).trans x5, ?_, (x.2.1 0 30 (by omega)).trans x7⟩, L⟩, M.2.2.kp (x.2.1 0 13 (by omega)) (x.1 19 (by omega)) (x.1 20 (by omega)) (x.1 21 (by omega))⟩
  · rw [x.1 5 (by omega)]
    exact x1 s hs
  · rw [x.1 8 (by omega)]
    exact x2 i hi
  · rw [x.2.1 0 31 (by omega), x.2.1 0 28 (by omega)]
    exact x6
def LKm (st : St) (L : List Nat) (g : Hp) : Prop := g.2.1 0 37 = (L.length : Int) ∧ ∀ (i s : Nat), L[i]? = some s → g.1 24 i = (s : Int) ∧ g.1 25 i = wr (4 * sN st s) ∧ g.1 26 i = wgt (sT st) s
theorem m_looks {g : Hp} {P : Int → Hp → Prop} (w : WS st) (M : RelM st g) {r : Int} (hr : r ≠ -4) (p : ∀ g', mf g g' → g'.1 27 = g.1 27 → (∀ k, 41 ≤ k → g'.2.1 0 k = g.2.1 0 k) → LKm st (lkN (sT st) r (mk (sT st))) g' → P 0 g') : Cl shM mX9_looks [pR 0, pI r] g P := by
  have hm := w.1.m
  have key : ∀ (n j : Nat) (g1 : Hp), j + n = mk (sT st) → mf g g1 → g1.1 27 = g.1 27 → (∀ k, 41 ≤ k → g1.2.1 0 k = g.2.1 0 k) → LKm st (lkN (sT st) r j) g1 → Ok shM 0 0 mX9_looks 7 [some (pR 0), some (pI r), some (pI (j : Int))] [] g1 P := by
    intro n
    induction n with
    | zero =>
      intro j g1 hj x e44 e40 L
      have R1 := x.rm M.1
      have e : j = mk (sT st) := hj
      subst e
      refine sX9_looks_7 ?_
      rw [R1.1]
      exact ⟨fun _ => p g1 x e44 e40 L, fun c => absurd (Int.le_refl _) c⟩
    | succ n ih =>
      intro j g1 hj x e44 e40 L
      have R1 := x.rm M.1
      have hl := lk_len (sT st) r j
      have s1 : lkN (sT st) r (j + 1) = if (lkN (sT st) r j).length < 12 ∧ lkc (sT st) r j then lkN (sT st) r j ++ [j] else lkN (sT st) r j := rfl
      have skip : ¬ lkc (sT st) r j → inR ((j : Int) + 1) ∧ Ok shM 0 0 mX9_looks 7 [some (pR 0), some (pI r), some (pI ((j : Int) + 1))] [] g1 P := fun c => by
        rw [if_neg (fun q => c q.2)] at s1
        exact ⟨by unfold inR; omega, ih (j + 1) g1 (by omega) x e44 e40 (by rw [s1]; exact L)⟩
      refine sX9_looks_7 ?_
      rw [R1.1, L.1]
      refine ⟨fun c => absurd c (by omega), fun _ => ⟨fun c => ?_, fun c => m_isCall w.1 R1 _ ⟨fun c1 => skip (fun q => b2_0.mp c1 ⟨by rw [kdI_at (by omega)]; exact q.1, by rw [q.2.2.2]; exact hr⟩), fun c1 => ?_⟩⟩⟩
      · have := lk_stop (t := sT st) (r := r) (n := j) (by omega) (n + 1)
        rw [hj] at this
        exact p g1 x e44 e40 (by rw [this]; exact L)
      · have c1 := b2_n0.mp c1
        have hk6 : kd (sT st) j = 6 := by
          have := c1.1
          rwa [kdI_at (by omega)] at this
        have hal : al (sT st) (j : Int) := al_n.mpr ⟨by omega, by rw [hk6]; decide⟩
        have hn := (w.1.nmr (s := j) (by omega) (by rw [hk6]; decide)).2 hk6
        have hb2 : bdI (sT st) (nm (sT st) j) = bd (sT st) (nm (sT st) j).toNat := if_pos hn
        refine m_homeOf w.1 R1 hal ⟨fun c2 => skip (fun q => c2 q.2.2.2), fun c2 => ⟨j, rfl, by omega, ?_⟩⟩
        rw [R1.n (by omega)]
        refine ⟨fun c3 => skip (fun q => q.2.1 c3), fun c3 => ⟨(nm (sT st) j).toNat, by omega, by omega, ?_⟩⟩
        rw [R1.b (by omega), ← hb2]
        refine ⟨fun c4 => skip (fun q => q.2.2.1 c4), fun c4 => ⟨(lkN (sT st) r j).length, L.1, by omega, ?_⟩⟩
        rw [if_pos ⟨by omega, hk6, c3, c4, c2⟩] at s1
        have e5 : g1.1 5 j = sN st j := by
          rw [x.1 5 (by omega)]
          exact M.2.1.1 j (by omega)
        rw [e5]
        have R2 : RM (sT st) (hA (hA g1 24 (lkN (sT st) r j).length (j : Int)) 25 (lkN (sT st) r j).length (wr (4 * sN st j))) := ((x.A (by decide)).A (by decide) : mf g _).rm M.1
        refine m_weightOf w.1 R2 (by omega) hk6 c4 (fun g2 x2 => ?_)
        have e8 : g2.2.1 0 37 = ((lkN (sT st) r j).length : Int) := by
          rw [x2.2]
          exact L.1
        rw [e8]
        refine ⟨by unfold inR; omega, by unfold inR; omega, ?_⟩
        refine ih (j + 1) _ (by omega) ((((x.A (by decide)).A (by decide)).tr x2.mf).A (by decide) |>.I (Or.inl rfl)) ?_ (fun k hk => ?_) ⟨?_, ?_⟩
        · show (hA g2 26 (lkN (sT st) r j).length (wgt (sT st) j)).1 27 = _
          rw [← e44]
          funext i
          rw [hA_at, if_neg (by omega), x2.a (by decide), hA_at, if_neg (by omega), hA_at, if_neg (by omega)]
        · rw [hI_at, if_neg (by omega)]
          show g2.2.1 0 k = _
          rw [x2.2]
          exact e40 k hk
        · rw [hI_at, if_pos ⟨rfl, rfl⟩, s1, List.length_append]
          rfl
        · rw [s1]
          refine lk_snoc (p := fun i s => _ = (s : Int) ∧ _ = wr (4 * sN st s) ∧ _ = wgt (sT st) s) (fun i s hi => ?_) ?_
          · have hil := (List.getElem?_eq_some_iff.mp hi).1
            have hL := L.2 i s hi
            refine ⟨?_, ?_, ?_⟩
            · rw [hI_a, hA_at, if_neg (by omega), x2.a (by decide), hA_at, if_neg (by omega), hA_at, if_neg (by omega)]
              exact hL.1
            · rw [hI_a, hA_at, if_neg (by omega), x2.a (by decide), hA_at, if_neg (by omega), hA_at, if_neg (by omega)]
              exact hL.2.1
            · rw [hI_a, hA_at, if_neg (by omega), x2.a (by decide), hA_at, if_neg (by omega), hA_at, if_neg (by omega)]
              exact hL.2.2
          · refine ⟨?_, ?_, ?_⟩
            · rw [hI_a, hA_at, if_neg (by omega), x2.a (by decide), hA_at, if_neg (by omega), hA_at, if_pos ⟨rfl, rfl⟩]
            · rw [hI_a, hA_at, if_neg (by omega), x2.a (by decide), hA_at, if_pos ⟨rfl, rfl⟩]
            · rw [hI_a, hA_at, if_pos ⟨rfl, rfl⟩]
  refine sX9_looks_0 (key (mk (sT st)) 0 _ (by omega) (mf.rf.I (Or.inl rfl)) rfl (fun k hk => ?_) ⟨?_, fun i s hi => by simp [lkN] at hi⟩)
  · rw [hI_at, if_neg (by omega)]
  · rw [hI_at, if_pos ⟨rfl, rfl⟩]
    rfl
end LK
