/-! AHEAD: what holds for a step, the reference -/
section HM
variable {t : TV} {h : Hp} {P : Int → Hp → Prop}
theorem m_howMany (w : WF t) (R : RM t h) {z : Int} (hz : al t z) (k v : Int) (p : ∀ h', fm 9 11 h h' → P (hmy t (plist t z) k v : Int) h') : Cl shM mX9_howMany [pR 0, pI z, pI k, pI v] h P := by
  have hm := R.m
  have hlen := plist_len (t := t) (z := z) w.trr
  refine sX9_howMany_0 (m_goes' w R hz (fun h' x hO _ => ?_))
  have R' := R.kp x (by decide)
  have key : ∀ (D2 D1 : List (Nat × Nat)), D1 ++ D2 = plist t z → Ok shM 0 0 mX9_howMany 13 [some (pR 0), none, some (pI k), some (pI v), some (pI ((plist t z).length : Int)), some (pI (hmy t D1 k v : Int)), some (pI (D1.length : Int))] [] h' P := by
    intro D2
    induction D2 with
    | nil =>
      intro D1 he
      rw [List.append_nil] at he
      subst he
      exact sX9_howMany_13 ⟨fun _ => p h' x, fun c => absurd (Int.le_refl _) c⟩
    | cons q D2 ih =>
      intro D1 he
      have hl : D1.length < (plist t z).length := by rw [← he]; simp
      have hq : (plist t z)[D1.length]? = some q := by rw [← he]; simp
      have hqm := plist_at w (List.mem_of_getElem? hq)
      have hc := hmy_le (t := t) k v D1
      have this1 := ih (D1 ++ [q]) (by rw [← he]; simp)
      rw [hmy_snoc, List.length_append] at this1
      refine sX9_howMany_13 ⟨fun c => absurd c (by omega), fun _ => ⟨D1.length, rfl, by omega, ?_⟩⟩
      rw [hO _ _ hq]
      refine ⟨q.1, rfl, by omega, ?_⟩
      rw [R'.k hqm.1, R'.n hqm.1]
      refine ⟨fun c => ⟨by unfold inR; omega, by unfold inR; omega, ?_⟩, fun c => ⟨fun c2 => ⟨by unfold inR; omega, by unfold inR; omega, ?_⟩, fun c2 => ⟨by unfold inR; omega, by unfold inR; omega, ?_⟩⟩⟩
      · rw [if_neg (fun q => c q.1)] at this1
        rw [Int.add_zero]
        exact this1
      · rw [if_neg (fun q => c2 q.2)] at this1
        rw [Int.add_zero]
        exact this1
      · rw [if_pos ⟨c, c2⟩] at this1
        exact this1
  exact key (plist t z) [] rfl
theorem m_hasLeave (w : WF t) (R : RM t h) {b : Nat} (hb : b < mk t) (hk : kd t b = 11) (p : ∀ h', fm 9 11 h h' → P (if lvB t b = true then 1 else 0) h') : Cl shM mX9_hasLeave [pR 0, pI (b : Int)] h P := by
  have hm := R.m
  have hkb : kd t b ≠ -1 := by rw [hk]; decide
  have hal : al t (b : Int) := al_n.mpr ⟨hb, hkb⟩
  have epl : plist t (b : Int) = pre t 40 1 b := plist_al hal
  have hlen := plist_len (t := t) (z := (b : Int)) w.trr
  have hiff := lvB_iff w hb hk
  rw [← epl] at hiff
  have htr := w.tr' hb hkb
  refine sX9_hasLeave_0 (m_goes' w R hal (fun h' x hO _ => ?_))
  have R' := R.kp x (by decide)
  have snoc : ∀ (D : List (Nat × Nat)) (q : Nat × Nat), (dC (∃ y ∈ D ++ [q], kd t y.1 = 7 ∧ nbS t y.1 = (b : Int)) = true) ↔ (dC (∃ y ∈ D, kd t y.1 = 7 ∧ nbS t y.1 = (b : Int)) = true ∨ (kd t q.1 = 7 ∧ nbS t q.1 = (b : Int))) := fun D q => by
    rw [dC_iff, dC_iff]
    constructor
    · rintro ⟨y, hy, h1⟩
      rcases List.mem_append.mp hy with z | z
      · exact Or.inl ⟨y, z, h1⟩
      · rw [List.mem_singleton] at z
        rw [z] at h1
        exact Or.inr h1
    · rintro (⟨y, hy, h1⟩ | h1)
      · exact ⟨y, List.mem_append_left _ hy, h1⟩
      · exact ⟨q, by simp, h1⟩
  have climb : ∀ (d x : Nat) (v3 v4 : Int), (x, d) ∈ pre t 40 1 b → (v3 = 0 ∨ v3 = 1) → inR (v4 + 1) → Ok shM 0 0 mX9_hasLeave 11 [some (pR 0), some (pI (b : Int)), some (pI ((plist t (b : Int)).length : Int)), some (pI (if v3 = 1 ∨ nbS t x = (b : Int) then 1 else 0)), some (pI (v4 + 1)), none] [] h' P → Ok shM 0 0 mX9_hasLeave 48 [some (pR 0), some (pI (b : Int)), some (pI ((plist t (b : Int)).length : Int)), some (pI v3), some (pI v4), some (pI (x : Int))] [] h' P := by
    intro d
    induction d with
    | zero =>
      intro x v3 v4 hx
      have := (pre_in hx htr).1
      omega
    | succ d ih =>
      intro x v3 v4 hx hv hr nx
      have hxa := tr_at (pre_in hx htr).2.2
      have hns := nbS_e w hb hk (x := x) ⟨_, hx⟩
      refine sX9_hasLeave_48 ⟨x, rfl, by omega, ?_⟩
      rw [R'.k hxa.1, R'.u hxa.1]
      refine ⟨fun c => ⟨fun c1 => ⟨hr, ?_⟩, fun c1 => ⟨fun c2 => ⟨hr, ?_⟩, fun c2 => ⟨hr, ?_⟩⟩⟩, fun c => ?_⟩
      · rw [if_pos (Or.inl (by omega))] at nx
        exact nx
      · rw [if_pos c] at hns
        rw [if_neg (fun z => z.elim (fun z => by omega) (fun z => by rw [hns] at z; exact c2 z))] at nx
        exact nx
      · rw [if_pos c] at hns
        rw [if_pos (Or.inr (by rw [hns]; exact c2))] at nx
        exact nx
      · rw [if_neg c] at hns
        rcases pclos hx htr with ⟨e, _⟩ | ⟨a, e1, _, e3⟩
        · rw [e] at c
          exact absurd hk c
        · rw [e1, Int.toNat_natCast] at hns
          rw [e1]
          rw [hns] at nx
          exact ih a v3 v4 (by simpa using e3) hv hr nx
  have key : ∀ (D2 D1 : List (Nat × Nat)), D1 ++ D2 = plist t (b : Int) → Ok shM 0 0 mX9_hasLeave 11 [some (pR 0), some (pI (b : Int)), some (pI ((plist t (b : Int)).length : Int)), some (pI (if dC (∃ y ∈ D1, kd t y.1 = 7 ∧ nbS t y.1 = (b : Int)) = true then 1 else 0)), some (pI (D1.length : Int)), none] [] h' P := by
    intro D2
    induction D2 with
    | nil =>
      intro D1 he
      rw [List.append_nil] at he
      subst he
      refine sX9_hasLeave_11 ⟨fun _ => ⟨?_, ?_⟩, fun c => absurd (Int.le_refl _) c⟩
      · split
        · exact Or.inr rfl
        · exact Or.inl rfl
      · have := p h' x
        by_cases q : lvB t b = true
        · rw [if_pos q] at this
          rw [if_pos (dC_t (hiff.mpr q))]
          exact this
        · rw [if_neg q] at this
          rw [if_neg (fun z => q (hiff.mp (dC_iff.mp z)))]
          exact this
    | cons q D2 ih =>
      intro D1 he
      have hl : D1.length < (plist t (b : Int)).length := by rw [← he]; simp
      have hq : (plist t (b : Int))[D1.length]? = some q := by rw [← he]; simp
      have hqm := plist_at w (List.mem_of_getElem? hq)
      have hqi : (q.1, q.2) ∈ pre t 40 1 b := by
        rw [← epl]
        exact List.mem_of_getElem? hq
      have nx := ih (D1 ++ [q]) (by rw [← he]; simp)
      rw [List.length_append] at nx
      refine sX9_hasLeave_11 ⟨fun c => absurd c (by omega), fun _ => ⟨D1.length, rfl, by omega, ?_⟩⟩
      rw [hO _ _ hq]
      refine ⟨q.1, rfl, by omega, ?_⟩
      rw [R'.k hqm.1, R'.u hqm.1]
      refine ⟨fun c => ⟨by unfold inR; omega, ?_⟩, fun c => ?_⟩
      · have e : (dC (∃ y ∈ D1 ++ [q], kd t y.1 = 7 ∧ nbS t y.1 = (b : Int)) = true) ↔ (dC (∃ y ∈ D1, kd t y.1 = 7 ∧ nbS t y.1 = (b : Int)) = true) := (snoc D1 q).trans ⟨fun z => z.elim id (fun z => absurd z.1 c), Or.inl⟩
        by_cases z : dC (∃ y ∈ D1, kd t y.1 = 7 ∧ nbS t y.1 = (b : Int)) = true
        · rw [if_pos (e.mpr z)] at nx
          rw [if_pos z]
          exact nx
        · rw [if_neg (fun y => z (e.mp y))] at nx
          rw [if_neg z]
          exact nx
      · have hns := nbS_e w hb hk (x := q.1) ⟨_, hqi⟩
        rw [if_neg (by omega)] at hns
        rcases pclos hqi htr with ⟨e, _⟩ | ⟨a, e1, e2, e3⟩
        · rw [e] at c
          omega
        · rw [e1, Int.toNat_natCast] at hns
          rw [e1]
          refine climb (q.2 - 1) a _ _ e3 (by split <;> omega) (by unfold inR; omega) ?_
          by_cases z : dC (∃ y ∈ D1, kd t y.1 = 7 ∧ nbS t y.1 = (b : Int)) = true
          · rw [if_pos ((snoc D1 q).mpr (Or.inl z))] at nx
            rw [if_pos z, if_pos (Or.inl rfl)]
            exact nx
          · rw [if_neg z]
            by_cases z2 : nbS t a = (b : Int)
            · rw [if_pos ((snoc D1 q).mpr (Or.inr ⟨c, by rw [hns]; exact z2⟩))] at nx
              rw [if_pos (Or.inr z2)]
              exact nx
            · rw [if_neg (fun y => ((snoc D1 q).mp y).elim z (fun y => z2 (by rw [← hns]; exact y.2)))] at nx
              rw [if_neg (fun y => y.elim (fun y => by omega) z2)]
              exact nx
  have h0 := key (plist t (b : Int)) [] rfl
  rw [if_neg (fun z => by obtain ⟨y, hy, _⟩ := dC_iff.mp z; cases hy)] at h0
  exact h0
theorem m_isNumber (R : RM t h) {x : Nat} (hx : x < mk t) (p : P (b2 (kd t x = 0)) h) : Cl shM mX9_isNumber [pR 0, pI (x : Int)] h P := by
  have hm := R.m
  refine sX9_isNumber_0 ⟨x, rfl, by omega, ?_⟩
  rw [R.k hx]
  refine ⟨fun c => ?_, fun c => ?_⟩
  · rwa [b2, if_neg c] at p
  · rwa [b2, if_pos c] at p
theorem m_isFast (w : WF t) (R : RM t h) {r : Int} (hr : 0 ≤ r ∧ r < (rt t : Int)) (hbr : al t (bdI t r)) {s : Nat} (hs : s < mk t) (hk : kd t s = 5) (p : ∀ h', fm 9 11 h h' → P (b2 (fast t r s)) h') : Cl shM mX9_isFast [pR 0, pI r, pI (s : Int)] h P := by
  have hm := R.m
  have hks : kd t s ≠ -1 := by rw [hk]; decide
  obtain ⟨x1, x2, x3, x4⟩ := prt w hs hks (j := 0) (by rw [ar_2 (Or.inr (Or.inl hk))]; decide) (by decide)
  obtain ⟨y1, y2, y3, y4⟩ := prt w hs hks (j := 1) (by rw [ar_2 (Or.inr (Or.inl hk))]; decide) (by decide)
  have x3 : xN t s < mk t := x3
  have y3 : yN t s < mk t := y3
  have y4 : kd t (yN t s) ≠ -1 := y4
  have hb2 : bdI t r = bd t r.toNat := if_pos hr
  have hp2 : prI t r = pr t r.toNat := if_pos hr
  have q0 := fun (e : ¬ fast t r s) => (show P 0 h from by have := p h fm.rf; rwa [b2, if_neg e] at this)
  have e0 : h.1 3 (3 * s) = ((xN t s : Nat) : Int) := by
    have := R.p (s := s) (k := 0) hs (by decide)
    rw [show 3 * s = 3 * s + 0 from rfl, this]
    exact x1
  refine sX9_isFast_0 ⟨by unfold inR; omega, 3 * s, by omega, by omega, xN t s, e0, by omega, ?_⟩
  rw [R.k x3, e0]
  refine ⟨fun c => q0 (fun f => c f.1), fun c => ⟨by unfold inR; omega, 3 * xN t s, by omega, by omega, ?_⟩⟩
  have hkx : kd t (xN t s) ≠ -1 := by rw [c]; decide
  obtain ⟨z1, z2, z3, z4⟩ := prt w x3 hkx (j := 0) (by rw [ar_1 (Or.inl c)]; decide) (by decide)
  have z3 : xN t (xN t s) < mk t := z3
  have e1 : h.1 3 (3 * xN t s) = ((xN t (xN t s) : Nat) : Int) := by
    have := R.p (s := xN t s) (k := 0) x3 (by decide)
    rw [show 3 * xN t s = 3 * xN t s + 0 from rfl, this]
    exact z1
  rw [e1]
  refine m_isNumber R z3 ⟨fun c1 => q0 (fun f => b2_0.mp c1 f.2.1), fun c1 => ⟨r.toNat, by omega, by omega, ?_⟩⟩
  rw [R.q (by omega), R.n x3, R.b (by omega), ← hb2, ← hp2]
  refine ⟨fun c2 => m_howMany w R hbr _ _ (fun h1 f1 => ⟨fun c3 => ?_, fun c3 => ?_⟩), fun c2 => q0 (fun f => c2 f.2.2.1)⟩
  · have := p h1 f1
    rwa [b2, if_neg (fun f => c3 (by have := f.2.2.2.1; omega))] at this
  · have R1 := R.kp f1 (by decide)
    rw [R1.b (by omega), ← hb2]
    refine m_howMany w R1 hbr _ _ (fun h2 f2 => ⟨by unfold inR; omega, 3 * s + 1, by omega, by omega, ?_⟩)
    have R2 := R1.kp f2 (by decide)
    have e2 : h2.1 3 (3 * s + 1) = ((yN t s : Nat) : Int) := (R2.p hs (by decide)).trans y1
    rw [e2]
    refine m_howMany w R2 (al_n.mpr ⟨y3, y4⟩) _ _ (fun h3 f3 => ⟨fun c4 => ?_, fun c4 => ?_⟩)
    · have := p h3 ((f1.tr f2).tr f3)
      rwa [b2, if_neg (fun f => c4 (by have := f.2.2.2.2; omega))] at this
    · have := p h3 ((f1.tr f2).tr f3)
      rwa [b2, if_pos ⟨c, b2_n0.mp c1, c2, by omega, by omega⟩] at this
theorem m_holds (w : WF t) (R : RM t h) {r : Int} (hr : 0 ≤ r ∧ r < (rt t : Int)) (hbr : al t (bdI t r)) {s : Nat} (hs : s < mk t) (hks : kd t s ≠ -1) (p : ∀ h', fm 9 11 h h' → P (hld t r s) h') : Cl shM mX9_holds [pR 0, pI r, pI (s : Int)] h P := by
  have hm := R.m
  have hb := w.2.2.2.2.1 s hs
  refine sX9_holds_0 ⟨by unfold inR; omega, 3 * s, by omega, by omega, by unfold inR; omega, 3 * s + 1, by omega, by omega, s, rfl, by omega, ?_⟩
  rw [R.k hs]
  have ex : 0 < ar t s → h.1 3 (3 * s) = ((xN t s : Nat) : Int) ∧ xN t s < mk t := fun ha => by
    obtain ⟨x1, x2, x3, x4⟩ := prt w hs hks (j := 0) ha (by decide)
    have := R.p (s := s) (k := 0) hs (by decide)
    exact ⟨by rw [show 3 * s = 3 * s + 0 from rfl, this]; exact x1, x3⟩
  have ey : 1 < ar t s → h.1 3 (3 * s + 1) = ((yN t s : Nat) : Int) ∧ yN t s < mk t := fun ha => by
    obtain ⟨x1, x2, x3, x4⟩ := prt w hs hks (j := 1) ha (by decide)
    exact ⟨(R.p (s := s) (k := 1) hs (by decide)).trans x1, x3⟩
  have P0 : ∀ n : Int, hld t r s = n → P n h := fun n e => by rw [← e]; exact p h fm.rf
  refine ⟨fun c => ?_, fun c => ?_, fun c => ?_, fun c => ?_, fun c => ?_, fun c => ?_⟩
  · obtain ⟨e0, x3⟩ := ex (by rw [ar_2 (Or.inl c)]; decide)
    obtain ⟨e1, y3⟩ := ey (by rw [ar_2 (Or.inl c)]; decide)
    have eh : hld t r s = if kd t (xN t s) = 0 ∧ kd t (yN t s) = 0 ∧ (nm t s ≠ 3 ∨ nm t (yN t s) ≠ 0) then 1 else 0 := by
      unfold hld
      rw [if_pos c]
    rw [e0, e1]
    refine m_isNumber R x3 ⟨fun c1 => P0 0 (by rw [eh, if_neg (fun y => b2_0.mp c1 y.1)]), fun c1 => m_isNumber R y3 ⟨fun c2 => P0 0 (by rw [eh, if_neg (fun y => b2_0.mp c2 y.2.1)]), fun c2 => ?_⟩⟩
    rw [R.n hs]
    refine ⟨fun c3 => P0 1 (by rw [eh, if_pos ⟨b2_n0.mp c1, b2_n0.mp c2, Or.inl c3⟩]), fun c3 => ⟨yN t s, rfl, by omega, ?_⟩⟩
    rw [R.n y3]
    exact ⟨fun c4 => P0 0 (by rw [eh, if_neg (fun y => y.2.2.elim (fun z => z c3) (fun z => z c4))]), fun c4 => P0 1 (by rw [eh, if_pos ⟨b2_n0.mp c1, b2_n0.mp c2, Or.inr c4⟩])⟩
  · obtain ⟨e0, x3⟩ := ex (by rw [ar_3' c]; decide)
    have eh : hld t r s = if kd t (xN t s) = 0 then 2 else 0 := by
      unfold hld
      rw [if_neg (by omega), if_pos c]
    rw [e0]
    exact m_isNumber R x3 ⟨fun c1 => P0 0 (by rw [eh, if_neg (b2_0.mp c1)]), fun c1 => P0 2 (by rw [eh, if_pos (b2_n0.mp c1)])⟩
  · obtain ⟨e0, x3⟩ := ex (by rw [ar_2 (Or.inr (Or.inl c))]; decide)
    have eh : hld t r s = if kd t (xN t s) = 0 ∨ kd t (xN t s) = 1 then 4 else if fast t r s then 6 else 0 := by
      unfold hld
      rw [if_neg (by omega), if_neg (by omega), if_neg (by omega), if_pos c]
    rw [e0]
    refine m_isNumber R x3 ⟨fun c1 => P0 4 (by rw [eh, if_pos (Or.inl (b2_n0.mp c1))]), fun c1 => ⟨xN t s, rfl, by omega, ?_⟩⟩
    rw [R.k x3]
    refine ⟨fun c2 => m_isFast w R hr hbr hs c (fun h' f => ⟨fun c3 => ?_, fun c3 => ?_⟩), fun c2 => P0 4 (by rw [eh, if_pos (Or.inr c2)])⟩
    · have := p h' f
      rwa [eh, if_neg (fun z => z.elim (b2_0.mp c1) c2), if_neg (b2_0.mp c3)] at this
    · have := p h' f
      rwa [eh, if_neg (fun z => z.elim (b2_0.mp c1) c2), if_pos (b2_n0.mp c3)] at this
  · obtain ⟨e0, x3⟩ := ex (by rw [ar_2 (Or.inr (Or.inr (Or.inl c)))]; decide)
    have eh : hld t r s = if kd t (xN t s) = 0 ∧ nm t (xN t s) = 0 then 3 else 0 := by
      unfold hld
      rw [if_neg (by omega), if_neg (by omega), if_pos c]
    rw [e0]
    refine m_isNumber R x3 ⟨fun c1 => P0 0 (by rw [eh, if_neg (fun y => b2_0.mp c1 y.1)]), fun c1 => ⟨xN t s, rfl, by omega, ?_⟩⟩
    rw [R.n x3]
    exact ⟨fun c2 => P0 0 (by rw [eh, if_neg (fun y => c2 y.2)]), fun c2 => P0 3 (by rw [eh, if_pos ⟨b2_n0.mp c1, c2⟩])⟩
  · have eh : hld t r s = if lvB t s = true then 0 else 5 := by
      unfold hld
      rw [if_neg (by omega), if_neg (by omega), if_neg (by omega), if_neg (by omega), if_pos c]
    refine m_hasLeave w R hs c (fun h' f => ⟨fun z => ?_, fun z => ?_⟩)
    · have hl : lvB t s ≠ true := fun q => by
        rw [if_pos q] at z
        exact absurd z (by decide)
      have := p h' f
      rwa [eh, if_neg hl] at this
    · have hl : lvB t s = true := Classical.byContradiction fun q => by
        rw [if_neg q] at z
        exact z rfl
      have := p h' f
      rwa [eh, if_pos hl] at this
  · refine P0 0 ?_
    unfold hld
    rw [if_neg (by omega), if_neg (by omega), if_neg (by omega), if_neg (by omega), if_neg (by omega)]
end HM
