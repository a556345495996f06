/-! BOTH SIDES: next -/
section NX
variable {t : TV} {st : St} {h : Hp} {P : Int → Hp → Prop}
theorem wgt_b (w : WF t) {c : Nat} (hc : c < mk t) (h6 : kd t c = 6) (hb : bdI t (nm t c) ≠ -4) : 1 ≤ wgt t c ∧ wgt t c ≤ 800 := by
  have hn := (w.nmr hc (by rw [h6]; decide)).2 h6
  have hb2 : bdI t (nm t c) = bd t (nm t c).toNat := if_pos hn
  have hwr := w.2.2.1 (nm t c).toNat (by omega)
  have hpr := w.prr (nm t c)
  have hus := w.us (nm t c)
  have hge : prI t (nm t c) ≤ uses t (nm t c) := usL_ge t (plist t (bdI t (nm t c))) (prI t (nm t c))
  have ha : al t (bdI t (nm t c)) := by
    rw [hb2] at hb ⊢
    exact (hwr.2.2.resolve_left hb).1
  have hlen := plist_len (t := t) (z := bdI t (nm t c)) w.trr
  have h1 : 0 < (plist t (bdI t (nm t c))).length := by
    unfold plist
    rw [if_pos ha]
    show 0 < (_ :: _).length
    simp
  have hm := w.m
  unfold wgt
  omega
theorem LC.kp' {l : Option (Int × (Int × List Int))} {h h' : Hp} (x : LC l h) (e4 : h'.1 44 = h.1 44) (e : ∀ k, 9 ≤ k → h'.2.1 40 k = h.2.1 40 k) : LC l h' := by
  cases l with
  | none => exact (e 12 (by decide)).trans x
  | some x0 =>
    obtain ⟨x1, x2, x3, x4⟩ := x
    exact ⟨(e 10 (by decide)).trans x1, (e 11 (by decide)).trans x2, (e 12 (by decide)).trans x3, fun i z hz => (congrFun e4 i).trans (x4 i z hz)⟩
def GL (st : St) (L : List Nat) (i : Nat) : Int := wr (4 * sN st (L.getD i 0))
def WL (st : St) (L : List Nat) (i : Nat) : Int := wgt (sT st) (L.getD i 0)
theorem getD_some {L : List Nat} {i : Nat} (hi : i < L.length) : L[i]? = some (L.getD i 0) := by
  rw [List.getD_eq_getElem?_getD, List.getElem?_eq_getElem hi]
  rfl
theorem LKc.g {L : List Nat} (x : LKc st L h) {i : Nat} (hi : i < L.length) : h.1 41 i = ((L.getD i 0 : Nat) : Int) ∧ h.1 42 i = GL st L i ∧ h.1 43 i = WL st L i := x.2 i _ (getD_some hi)
theorem LKm.g {L : List Nat} (x : LKm st L h) {i : Nat} (hi : i < L.length) : h.1 24 i = ((L.getD i 0 : Nat) : Int) ∧ h.1 25 i = GL st L i ∧ h.1 26 i = WL st L i := x.2 i _ (getD_some hi)
theorem GL_in (st : St) (L : List Nat) (i : Nat) : inR (GL st L i) := wr_in _
theorem WL_b (w : WS st) {r : Int} {i : Nat} (hi : i < (lkN (sT st) r (mk (sT st))).length) : 1 ≤ WL st (lkN (sT st) r (mk (sT st))) i ∧ WL st (lkN (sT st) r (mk (sT st))) i ≤ 800 := by
  have hm := lk_mem (List.mem_of_getElem? (getD_some hi))
  exact wgt_b w.1 hm.1 hm.2.1 hm.2.2.2.1
theorem mul_inL {x y : Int} (hx : inR x) (hy : 1 ≤ y ∧ y ≤ 800) : inL (x * y) := by
  unfold inR at hx
  have h1 := Int.mul_le_mul_of_nonneg_right hx.1 (show (0 : Int) ≤ y by omega)
  have h2 := Int.mul_le_mul_of_nonneg_right (show x ≤ 2147483648 by omega) (show (0 : Int) ≤ y by omega)
  unfold inL
  omega
theorem lcmp_le {x y : Int} : b_lcmp x y ≤ 0 ↔ x ≤ y := by
  unfold b_lcmp
  split
  · omega
  · split <;> omega
theorem c_refusal (R : RC t h) (r b : Int) (p1 : ¬ ((0 ≤ r ∧ r < (rt t : Int)) ∧ 0 ≤ b ∧ b ≤ 1000) → P (-1) h) (p2 : ((0 ≤ r ∧ r < (rt t : Int)) ∧ 0 ≤ b ∧ b ≤ 1000) → bdI t r = -4 → P (-2) h) (p3 : ((0 ≤ r ∧ r < (rt t : Int)) ∧ 0 ≤ b ∧ b ≤ 1000) → bdI t r ≠ -4 → P 0 h) : Cl shC mX8_refusalOfChoice [pR 0, pI r, pI b] h P :=
  sX8_refusalOfChoice_0 (c_isRoutine R r ⟨fun c => p1 (fun q => b2_0.mp c q.1), fun c => ⟨fun c2 => p1 (by omega), fun c2 => ⟨fun c3 => c_isMissing R r ⟨fun c4 => p3 ⟨b2_n0.mp c, by omega, c3⟩ (b2_0.mp c4), fun c4 => p2 ⟨b2_n0.mp c, by omega, c3⟩ (b2_n0.mp c4)⟩, fun c3 => p1 (by omega)⟩⟩⟩)
def nxN (st : St) (L : List Nat) (b : Int) : Nat → Int
  | 0 => -4
  | i + 1 => if b < WL st L i then nxN st L b i else if nxN st L b i = -4 then (i : Int) else if GL st L (nxN st L b i).toNat * WL st L i < GL st L i * WL st L (nxN st L b i).toNat then (i : Int) else nxN st L b i
theorem nxN_r (st : St) (L : List Nat) (b : Int) : ∀ i, nxN st L b i = -4 ∨ (0 ≤ nxN st L b i ∧ nxN st L b i < (i : Int))
  | 0 => Or.inl rfl
  | i + 1 => by
    have := nxN_r st L b i
    rw [nxN]
    split
    · omega
    · split
      · omega
      · split <;> omega
def nxR (st : St) (r b : Int) : Int := if nxN st (lkN (sT st) r (mk (sT st))) b (lkN (sT st) r (mk (sT st))).length = -4 then -4 else (((lkN (sT st) r (mk (sT st))).getD (nxN st (lkN (sT st) r (mk (sT st))) b (lkN (sT st) r (mk (sT st))).length).toNat 0 : Nat) : Int)
theorem c_bestNext (w : WS st) (R : RelC st h) (r b : Int) : Cl shC mX0_bestNext [pR 40, pI r, pI b] h (fun q h' => q = nxR st r b ∧ RelC st h') := by
  refine sX0_bestNext_0 (c_lookAt w R r (fun h1 x e44 e40 L => ?_))
  have R1 : RelC st h1 := x.rel R (l := sL st) (R.2.1.2.2.2.kp' e44 e40)
  have hl := lk_len (sT st) r (mk (sT st))
  unfold nxR
  have hW : ∀ i, i < (lkN (sT st) r (mk (sT st))).length → 1 ≤ WL st (lkN (sT st) r (mk (sT st))) i ∧ WL st (lkN (sT st) r (mk (sT st))) i ≤ 800 := fun i hi => WL_b w hi
  generalize lkN (sT st) r (mk (sT st)) = LL at *
  have key : ∀ (n i : Nat), i + n = LL.length → Ok shC 0 0 mX0_bestNext 11 [some (pR 40), none, some (pI b), some (pI (nxN st LL b i)), some (pI (i : Int))] [] h1 (fun q h' => q = (if nxN st LL b LL.length = -4 then -4 else ((LL.getD (nxN st LL b LL.length).toNat 0 : Nat) : Int)) ∧ RelC st h') := by
    intro n
    induction n with
    | zero =>
      intro i hi
      have e : i = LL.length := hi
      subst e
      have hr := nxN_r st LL b LL.length
      refine sX0_bestNext_11 ?_
      rw [L.1]
      refine ⟨fun _ => ⟨fun c => ?_, fun c => ⟨by rw [if_pos c], R1⟩⟩, fun c => absurd (Int.le_refl _) c⟩
      refine ⟨(nxN st LL b LL.length).toNat, by omega, by omega, ?_, R1⟩
      rw [if_neg c]
      exact (L.g (by omega)).1
    | succ n ih =>
      intro i hi
      have hr := nxN_r st LL b i
      have hg := L.g (i := i) (by omega)
      have s1 : nxN st LL b (i + 1) = if b < WL st LL i then nxN st LL b i else if nxN st LL b i = -4 then (i : Int) else if GL st LL (nxN st LL b i).toNat * WL st LL i < GL st LL i * WL st LL (nxN st LL b i).toNat then (i : Int) else nxN st LL b i := rfl
      have nx := ih (i + 1) (by omega)
      refine sX0_bestNext_11 ?_
      rw [L.1]
      refine ⟨fun c => absurd c (by omega), fun _ => ⟨i, rfl, by omega, ?_⟩⟩
      rw [hg.2.2]
      refine ⟨fun c => ⟨by unfold inR; omega, ?_⟩, fun c => ⟨fun c2 => ⟨by unfold inR; omega, ?_⟩, fun c2 => ?_⟩⟩
      · rw [if_pos c] at s1
        rw [s1] at nx
        exact nx
      · rw [if_neg c, if_pos c2] at s1
        rw [s1] at nx
        exact nx
      · rw [if_neg c, if_neg c2] at s1
        have hb := L.g (i := (nxN st LL b i).toNat) (by omega)
        refine sX0_isBetter_0 ⟨i, rfl, by omega, (nxN st LL b i).toNat, by omega, by omega, ?_⟩
        rw [hg.2.1, hg.2.2, hb.2.1, hb.2.2]
        refine ⟨mul_inL (GL_in _ _ _) (hW _ (by omega)), mul_inL (GL_in _ _ _) (hW _ (by omega)), fun c3 => ⟨fun _ => ⟨by unfold inR; omega, ?_⟩, fun c4 => absurd rfl c4⟩, fun c3 => ⟨fun c4 => absurd c4 (by decide), fun _ => ⟨by unfold inR; omega, ?_⟩⟩⟩
        · have c3 := lcmp_le.mp c3
          rw [if_neg (by omega)] at s1
          rw [s1] at nx
          exact nx
        · have c3 : ¬ _ := fun q => c3 (lcmp_le.mpr q)
          rw [if_pos (by omega)] at s1
          rw [s1] at nx
          exact nx
  exact key LL.length 0 (by omega)
theorem m_next2 {g : Hp} (w : WS st) (M : RelM st g) {r : Int} (hr : r ≠ -4) (b : Int) : Cl shM mX9_looks [pR 0, pI r] g (fun _ g1 => Ok shM 0 0 mX9_next 46 [some (pR 0), none, some (pI b), some (pI (-1)), some (pI 0)] [] g1 (fun q g' => q = nxR st r b ∧ RelM st g')) := by
  refine m_looks w M hr (fun g1 x e44 e40 L => ?_)
  have R1 : RelM st g1 := x.rel M (l := sL st) (M.2.1.2.2.2.kp e40 e44)
  have hl := lk_len (sT st) r (mk (sT st))
  unfold nxR
  have hW : ∀ i, i < (lkN (sT st) r (mk (sT st))).length → 1 ≤ WL st (lkN (sT st) r (mk (sT st))) i ∧ WL st (lkN (sT st) r (mk (sT st))) i ≤ 800 := fun i hi => WL_b w hi
  generalize lkN (sT st) r (mk (sT st)) = LL at *
  have key : ∀ (n i : Nat) (v : Int), i + n = LL.length → v = (if nxN st LL b i = -4 then -1 else nxN st LL b i) → Ok shM 0 0 mX9_next 46 [some (pR 0), none, some (pI b), some (pI v), some (pI (i : Int))] [] g1 (fun q g' => q = (if nxN st LL b LL.length = -4 then -4 else ((LL.getD (nxN st LL b LL.length).toNat 0 : Nat) : Int)) ∧ RelM st g') := by
    intro n
    induction n with
    | zero =>
      intro i v hi hv
      have e : i = LL.length := hi
      subst e
      have hr := nxN_r st LL b LL.length
      refine sX9_next_46 ?_
      rw [L.1]
      refine ⟨fun _ => ⟨fun c => ?_, fun c => ⟨?_, R1⟩⟩, fun c => absurd (Int.le_refl _) c⟩
      · have hne : nxN st LL b LL.length ≠ -4 := fun q => by rw [if_pos q] at hv; omega
        rw [if_neg hne] at hv ⊢
        refine ⟨v.toNat, by omega, by omega, ?_, R1⟩
        rw [hv]
        exact (L.g (by omega)).1
      · have he : nxN st LL b LL.length = -4 := Classical.byContradiction fun q => by rw [if_neg q] at hv; omega
        rw [if_pos he]
    | succ n ih =>
      intro i v hi hv
      have hr := nxN_r st LL b i
      have hg := L.g (i := i) (by omega)
      have s1 : nxN st LL b (i + 1) = if b < WL st LL i then nxN st LL b i else if nxN st LL b i = -4 then (i : Int) else if GL st LL (nxN st LL b i).toNat * WL st LL i < GL st LL i * WL st LL (nxN st LL b i).toNat then (i : Int) else nxN st LL b i := rfl
      have nx := fun v' => ih (i + 1) v' (by omega)
      have nx1 := nx i
      have nx2 := nx v
      refine sX9_next_46 ?_
      rw [L.1]
      refine ⟨fun c => absurd c (by omega), fun _ => ⟨i, rfl, by omega, ?_⟩⟩
      rw [hg.2.2]
      refine ⟨fun c => ⟨by unfold inR; omega, nx2 ?_⟩, fun c => ⟨fun c2 => ⟨by unfold inR; omega, nx1 ?_⟩, fun c2 => ?_⟩⟩
      · rw [if_pos c] at s1
        rw [s1]; exact hv
      · have he : nxN st LL b i = -4 := Classical.byContradiction fun q => by rw [if_neg q] at hv; omega
        rw [if_neg c, if_pos he] at s1
        rw [s1, if_neg (by omega)]
      · have hne : nxN st LL b i ≠ -4 := fun q => by rw [if_pos q] at hv; omega
        rw [if_neg c, if_neg hne] at s1
        rw [if_neg hne] at hv
        have hb := L.g (i := v.toNat) (by omega)
        refine ⟨v.toNat, by omega, by omega, ?_⟩
        rw [hg.2.1, hb.2.1, hb.2.2]
        rw [← hv] at s1
        refine ⟨mul_inL (GL_in _ _ _) (hW _ (by omega)), mul_inL (GL_in _ _ _) (hW _ (by omega)), fun c3 => ⟨by unfold inR; omega, nx2 ?_⟩, fun c3 => ⟨by unfold inR; omega, nx1 ?_⟩⟩
        · have c3 := lcmp_le.mp c3
          rw [if_neg (by omega)] at s1
          rw [s1, if_neg (by omega)]
        · have c3 : ¬ _ := fun q => c3 (lcmp_le.mpr q)
          rw [if_pos (by omega)] at s1
          rw [s1, if_neg (by omega)]
  exact key LL.length 0 (-1) (by omega) rfl
theorem m_routI (w : WF t) {g : Hp} (R : RM t g) {r : Int} (hr : 0 ≤ r ∧ r < (rt t : Int)) : ∃ k : Nat, r = (k : Int) ∧ k < 10 ∧ g.1 7 k = bdI t r := by
  have hm := w.m
  refine ⟨r.toNat, by omega, by omega, ?_⟩
  rw [R.b (by omega)]
  exact (if_pos hr).symm
theorem sim_next (w : WS st) (r b : Int) : Sim st mX8_next mX9_next [pI r, pI b] := by
  intro h g R M
  have hm := w.1.m
  by_cases ok : (0 ≤ r ∧ r < (rt (sT st) : Int)) ∧ 0 ≤ b ∧ b ≤ 1000
  · obtain ⟨k, hk1, hk2, hk3⟩ := m_routI w.1 M.1 ok.1
    by_cases hb : bdI (sT st) r = -4
    · refine ⟨-2, st, w, sX8_next_0 (c_refusal R.1 r b (fun q => absurd ok q) (fun _ _ => ⟨fun c => absurd c (by decide), fun _ => ⟨rfl, R⟩⟩) (fun _ q => absurd hb q)), sX9_next_0 (m_isRoutine M.1 r ⟨fun q => absurd ok.1 (b2_0.mp q), fun _ => m_in b 0 1000 ⟨fun _ => ⟨k, hk1, hk2, ?_⟩, fun q => absurd ok.2 (b2_0.mp q)⟩⟩)⟩
      rw [hk3]
      exact ⟨fun q => absurd hb q, fun _ => ⟨rfl, M⟩⟩
    · refine ⟨nxR st r b, st, w, sX8_next_0 (c_refusal R.1 r b (fun q => absurd ok q) (fun _ q => absurd q hb) (fun _ _ => ⟨fun _ => c_bestNext w R r b, fun c => absurd rfl c⟩)), sX9_next_0 (m_isRoutine M.1 r ⟨fun q => absurd ok.1 (b2_0.mp q), fun _ => m_in b 0 1000 ⟨fun _ => ⟨k, hk1, hk2, ?_⟩, fun q => absurd ok.2 (b2_0.mp q)⟩⟩)⟩
      rw [hk3]
      exact ⟨fun _ => m_next2 w M (by omega) b, fun q => absurd q hb⟩
  · refine ⟨-1, st, w, sX8_next_0 (c_refusal R.1 r b (fun _ => ⟨fun c => absurd c (by decide), fun _ => ⟨rfl, R⟩⟩) (fun q => absurd q ok) (fun q => absurd q ok)), sX9_next_0 (m_isRoutine M.1 r ⟨fun _ => ⟨rfl, M⟩, fun q => m_in b 0 1000 ⟨fun q2 => absurd ⟨b2_n0.mp q, b2_n0.mp q2⟩ ok, fun _ => ⟨rfl, M⟩⟩⟩)⟩
end NX
