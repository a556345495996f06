/-! AHEAD: the reference clears what is left -/
section GR
variable {t : TV} {s p : Nat}
/-- how many steps stand -/
def ac (t : TV) : Nat := cnt (fun x => decide (kd t x ≠ -1)) (mk t)
theorem ac_clr {x : Nat} (hx : x < mk t) (hk : kd t x ≠ -1) : ac (clr t x (-1) 0) < ac t := by
  show cnt _ (mk t) < cnt _ (mk t)
  refine cnt_lt (fun i _ hi => ?_) ⟨x, hx, decide_eq_true hk, ?_⟩
  · rw [decide_eq_true_eq] at hi ⊢
    intro e
    apply hi
    show (clr t x (-1) 0).1 0 i = -1
    rw [clr_at]
    split
    · rfl
    · rw [if_neg (by omega), if_neg (by omega), if_neg (by omega)]
      exact e
  · rw [decide_eq_false_iff_not]
    intro e
    apply e
    show (clr t x (-1) 0).1 0 x = -1
    rw [clr_at, if_pos ⟨rfl, rfl⟩]
theorem ac_te {a b : TV} (e : TE a b) : ac b = ac a := by
  obtain ⟨e1, e2, e3, _⟩ := e
  unfold ac
  rw [e1]
  have key : ∀ n, n ≤ mk a → cnt (fun x => decide (kd b x ≠ -1)) n = cnt (fun x => decide (kd a x ≠ -1)) n := by
    intro n
    induction n with
    | zero => exact fun _ => rfl
    | succ n ih =>
      intro hn
      rw [cnt_s, cnt_s, ih (by omega), (e3 n (by omega)).1]
  exact key (mk a) (Nat.le_refl _)
def SN (h : Hp) : List Nat → Prop
  | [] => True
  | x :: L => h.1 11 L.length = (x : Int) ∧ SN h L
theorem SN_eq {h h' : Hp} : ∀ {L : List Nat}, SN h L → (∀ j, j < L.length → h'.1 11 j = h.1 11 j) → SN h' L
  | [], _, _ => trivial
  | x :: L, a, e => ⟨by rw [e L.length (by simp)]; exact a.1, SN_eq a.2 (fun j hj => e j (by simp; omega))⟩
/-- a step as far as its kind goes -/
def fk (t : TV) (x : Nat) : Prop := -1 ≤ kd t x ∧ kd t x ≤ 11 ∧ (kd t x = 6 → 0 ≤ nm t x ∧ nm t x < (rt t : Int) ∧ 0 ≤ pr t (nm t x).toNat ∧ pr t (nm t x).toNat ≤ 3)
theorem m_partsOf' {P : Int → Hp → Prop} {h : Hp} (R : RM t h) {x : Nat} (hs : x < mk t) (f : fk t x) (p : P (ar t x : Int) h) : Cl shM mX9_partsOf [pR 0, pI (x : Int)] h P := by
  have hm := R.m
  refine sX9_partsOf_0 ⟨x, rfl, by omega, ?_⟩
  rw [R.k hs, R.n hs]
  have f1 := f.1
  have f2 := f.2.1
  have f3 := f.2.2
  unfold ar at p
  refine ⟨fun c => ?_, fun c => ?_, fun c => ?_, fun c => ?_, fun c => ?_⟩
  · rw [if_neg (by omega), if_neg (by omega), if_neg (by omega), if_neg (by omega)] at p
    exact p
  · rw [if_neg (by omega), if_pos (by omega)] at p
    exact p
  · rw [if_neg (by omega), if_neg (by omega), if_pos (by omega)] at p
    exact p
  · have f3 := f3 c
    refine exI (by omega) (by omega) ?_
    rw [R.q (by omega)]
    rw [if_neg (by omega), if_neg (by omega), if_neg (by omega), if_pos (by omega)] at p
    rw [show ((pr t (nm t x).toNat).toNat : Int) = pr t (nm t x).toNat by omega] at p
    exact p
  · rw [if_pos (by omega)] at p
    exact p
/-- rows that a walk over what is left can go along -/
def wk (t : TV) : Prop := ∀ x, x < mk t → fk t x ∧ ∀ k, k < 3 → (pt t x k = -4 ∨ (0 ≤ pt t x k ∧ pt t x k < (mk t : Int))) ∧ (ar t x ≤ k → pt t x k = -4)
theorem ar_le3 {x : Nat} (f : fk t x) : ar t x ≤ 3 := by
  unfold ar
  split
  · decide
  · split
    · decide
    · split
      · decide
      · split
        · rename_i h6
          have := (f.2.2 h6).2.2
          omega
        · decide
theorem wk_clr (h : wk t) {x : Nat} : wk (clr t x (-1) 0) := by
  intro y hy
  have hy : y < mk t := hy
  have e0 : kd (clr t x (-1) 0) y = if y = x then -1 else kd t y := by
    show (clr t x (-1) 0).1 0 y = _
    rw [clr_at]
    by_cases z : y = x
    · rw [if_pos ⟨rfl, z⟩, if_pos z]
    · rw [if_neg (fun q => z q.2), if_neg (by omega), if_neg (by omega), if_neg (by omega), if_neg z]
  have e1 : y ≠ x → nm (clr t x (-1) 0) y = nm t y := fun z => by
    show (clr t x (-1) 0).1 1 y = _
    rw [clr_at, if_neg (by omega), if_neg (fun q => z q.2), if_neg (by omega), if_neg (by omega)]
  have e2 : ∀ k, k < 3 → pt (clr t x (-1) 0) y k = if y = x then -4 else pt t y k := fun k hk => by
    show (clr t x (-1) 0).1 2 (3 * y + k) = _
    rw [clr_at, if_neg (by omega), if_neg (by omega), if_neg (by omega)]
    by_cases z : y = x
    · rw [if_pos ⟨rfl, by omega⟩, if_pos z]
    · rw [if_neg (by omega), if_neg z]
  obtain ⟨a1, a2⟩ := h y hy
  by_cases z : y = x
  · refine ⟨⟨by rw [e0, if_pos z]; decide, by rw [e0, if_pos z]; decide, fun q => by rw [e0, if_pos z] at q; exact absurd q (by decide)⟩, fun k hk => ?_⟩
    rw [e2 k hk, if_pos z]
    exact ⟨Or.inl rfl, fun _ => rfl⟩
  · have ek : kd (clr t x (-1) 0) y = kd t y := by rw [e0, if_neg z]
    have ea : ar (clr t x (-1) 0) y = ar t y := by
      unfold ar
      rw [ek, e1 z]
      rfl
    refine ⟨⟨by rw [ek]; exact a1.1, by rw [ek]; exact a1.2.1, fun q => ?_⟩, fun k hk => ?_⟩
    · rw [ek] at q
      rw [e1 z]
      exact a1.2.2 q
    · rw [e2 k hk, if_neg z, ea]
      exact a2 k hk
/-- what the reference's working may change -/
theorem m_goesRest {P : Int → Hp → Prop} {g : Hp} {T : TV} (M : RM T g) (hw : wk T) (hs : s < mk T) (hcl : ∀ D : List (Nat × Nat), (∃ d, (s, d) ∈ D) → (∀ q ∈ D, ∀ y ∈ ch T q.1, ∃ d, (y, d) ∈ D) → (∀ C : Nat → Prop, C s → (∀ x, C x → ∀ y ∈ ch T x, C y) → ∀ q ∈ D, C q.1) → ∀ g', gf 1 11 g g' → g'.1 5 = g.1 5 → g'.1 6 = g.1 6 → g'.1 7 = g.1 7 → g'.1 8 = g.1 8 → RM (eT T D) g' → P 0 g') : Cl shM mX9_goesRest [pR 0, pI (s : Int)] g P := by
  have hm := M.m
  -- rows that are not yet cleared are as they were
  have row : ∀ (D : List (Nat × Nat)) (x : Nat), ¬ (∃ d, (x, d) ∈ D) → kd (eT T D) x = kd T x ∧ nm (eT T D) x = nm T x ∧ ∀ k, k < 3 → pt (eT T D) x k = pt T x k := by
    intro D x hx
    obtain ⟨e0, e1, _, e2, _⟩ := eT_at D T
    have hn : dC (∃ d, (x, d) ∈ D) ≠ true := fun z => hx (dC_iff.mp z)
    refine ⟨?_, ?_, fun k hk => ?_⟩
    · show (eT T D).1 0 x = _
      rw [e0, if_neg hn]
    · show (eT T D).1 1 x = _
      rw [e1, if_neg hn]
    · show (eT T D).1 2 (3 * x + k) = _
      rw [e2, show (3 * x + k) / 3 = x by omega, if_neg hn]
  have row2 : ∀ (D : List (Nat × Nat)) (x : Nat), (∃ d, (x, d) ∈ D) → kd (eT T D) x = -1 := by
    intro D x hx
    obtain ⟨e0, _⟩ := eT_at D T
    show (eT T D).1 0 x = _
    rw [e0, if_pos (dC_t hx)]
  have emk : ∀ D, mk (eT T D) = mk T := fun D => by
    show (eT T D).2.1 = _
    rw [eT_2]
  have key : ∀ (n : Nat) (L : List Nat) (D : List (Nat × Nat)) (g1 : Hp), 3 * ac (eT T D) + L.length ≤ n → L.length + 2 * ac (eT T D) ≤ 1 + 2 * ac T → wk (eT T D) → SN g1 L → (∀ x ∈ L, x < mk T) → ((∃ d, (s, d) ∈ D) ∨ s ∈ L) → (∀ q ∈ D, ∀ y ∈ ch T q.1, (∃ d, (y, d) ∈ D) ∨ y ∈ L) → (∀ C : Nat → Prop, C s → (∀ x, C x → ∀ y ∈ ch T x, C y) → (∀ q ∈ D, C q.1) ∧ ∀ x ∈ L, C x) → gf 1 11 g g1 → g1.1 5 = g.1 5 → g1.1 6 = g.1 6 → g1.1 7 = g.1 7 → g1.1 8 = g.1 8 → RM (eT T D) g1 → Ok shM 0 0 mX9_goesRest 9 [some (pR 0), none, some (pI (L.length : Int)), none, none, none] [] g1 P := by
    have hac : ac T ≤ 600 := Nat.le_trans (cnt_le _ _) hm.1
    intro n
    induction n with
    | zero =>
      intro L D g1 hn hb w1 hS hL h1 h2 h3 x e5 e6 e7 e8 M1
      have hL0 : L = [] := List.length_eq_zero_iff.mp (by omega)
      subst hL0
      refine sX9_goesRest_9 ⟨fun _ => hcl D (h1.resolve_right (fun z => by cases z)) (fun q hq y hy => (h2 q hq y hy).resolve_right (fun z => by cases z)) (fun C c0 cc => (h3 C c0 cc).1) g1 x e5 e6 e7 e8 M1, fun z => absurd (Int.le_refl 0) z⟩
    | succ n ih =>
      intro L D g1 hn hb w1 hS hL h1 h2 h3 x e5 e6 e7 e8 M1
      cases L with
      | nil => exact sX9_goesRest_9 ⟨fun _ => hcl D (h1.resolve_right (fun z => by cases z)) (fun q hq y hy => (h2 q hq y hy).resolve_right (fun z => by cases z)) (fun C c0 cc => (h3 C c0 cc).1) g1 x e5 e6 e7 e8 M1, fun z => absurd (Int.le_refl 0) z⟩
      | cons v L =>
        have hv := hL v List.mem_cons_self
        have hlen : ((v :: L).length : Int) = (L.length : Int) + 1 := by simp
        simp only [List.length_cons] at hn hb
        have hfk := (w1 v (by rw [emk]; exact hv)).1
        have ha3 := ar_le3 hfk
        refine sX9_goesRest_9 ⟨fun z => absurd z (by omega), fun _ => ⟨by unfold inR; omega, L.length, by omega, by omega, ?_⟩⟩
        rw [hS.1]
        refine m_partsOf' M1 (by rw [emk]; exact hv) hfk ?_
        rw [show (((v :: L).length : Int) + -1) = (L.length : Int) by omega]
        have inner : ∀ (d k : Nat) (L1 : List Nat) (g2 : Hp), k + d = ar (eT T D) v → SN g2 L1 → L1.length ≤ L.length + k → (∀ y ∈ L1, y ∈ L ∨ ∃ k', k' < k ∧ k' < 3 ∧ pt (eT T D) v k' = (y : Int)) → (∀ y ∈ L, y ∈ L1) → (∀ k', k' < k → 0 ≤ pt (eT T D) v k' → (pt (eT T D) v k').toNat ∈ L1) → gf 1 11 g g2 → g2.1 5 = g.1 5 → g2.1 6 = g.1 6 → g2.1 7 = g.1 7 → g2.1 8 = g.1 8 → RM (eT T D) g2 → Ok shM 0 0 mX9_goesRest 33 [some (pR 0), none, some (pI (L1.length : Int)), some (pI (v : Int)), some (pI (ar (eT T D) v : Int)), some (pI (k : Int))] [] g2 P := by
          intro d
          induction d with
          | zero =>
            intro k L1 g2 hk hS1 hl1 i1 i2 i3 x2 f5 f6 f7 f8 M2
            have e : k = ar (eT T D) v := hk
            subst e
            refine sX9_goesRest_33 ⟨fun _ => m_goneAlone M2 (by omega) (fun g3 x3 M3 => ?_), fun z => absurd (Int.le_refl _) z⟩
            have eD : clr (eT T D) v (-1) 0 = eT T (D ++ [(v, 0)]) := by simp [eT]
            rw [eD] at M3
            have hmem : ∀ y : Nat, (∃ d, (y, d) ∈ D ++ [(v, 0)]) ↔ (∃ d, (y, d) ∈ D) ∨ y = v := fun y => by
              constructor
              · rintro ⟨d, hd⟩
                rcases List.mem_append.mp hd with z | z
                · exact Or.inl ⟨d, z⟩
                · rw [List.mem_singleton] at z
                  exact Or.inr (congrArg Prod.fst z)
              · rintro (⟨d, z⟩ | z)
                · exact ⟨d, List.mem_append_left _ z⟩
                · exact ⟨0, by rw [z]; simp⟩
            by_cases hvd : ∃ d, (v, d) ∈ D
            · -- it was cleared before
              have k0 := row2 D v hvd
              have a0 : ar (eT T D) v = 0 := by
                unfold ar
                rw [k0, if_neg (by omega), if_neg (by omega), if_neg (by omega), if_neg (by omega)]
              rw [a0] at hl1 i1
              have hac2 : ac (eT T (D ++ [(v, 0)])) ≤ ac (eT T D) := by
                rw [← eD]
                show cnt _ (mk (eT T D)) ≤ cnt _ (mk (eT T D))
                refine cnt_mono (fun i _ hi => ?_)
                rw [decide_eq_true_eq] at hi ⊢
                intro e
                apply hi
                show (clr (eT T D) v (-1) 0).1 0 i = -1
                rw [clr_at]
                split
                · rfl
                · rw [if_neg (by omega), if_neg (by omega), if_neg (by omega)]
                  exact e
              refine ih L1 (D ++ [(v, 0)]) g3 (by omega) (by omega) (by rw [← eD]; exact wk_clr w1) (SN_eq hS1 (fun j _ => by rw [x3.1 11 (by decide)])) (fun y hy => ?_) ?_ (fun q hq y hy => ?_) (fun C c0 cc => ?_) (x2.tr (x3.wd (by decide) (by decide))) ((x3.1 5 (by decide)).trans f5) ((x3.1 6 (by decide)).trans f6) ((x3.1 7 (by decide)).trans f7) ((x3.1 8 (by decide)).trans f8) M3
              · rcases i1 y hy with z | ⟨k', z, _⟩
                · exact hL y (List.mem_cons_of_mem _ z)
                · omega
              · rcases h1 with z | z
                · exact Or.inl ((hmem s).mpr (Or.inl z))
                · rcases List.mem_cons.mp z with z | z
                  · exact Or.inl ((hmem s).mpr (Or.inr z))
                  · exact Or.inr (i2 s z)
              · have : (∃ d, (y, d) ∈ D) ∨ y ∈ v :: L := by
                  rcases List.mem_append.mp hq with z | z
                  · exact h2 q z y hy
                  · rw [List.mem_singleton] at z
                    obtain ⟨d, hd⟩ := hvd
                    exact h2 (v, d) hd y (by rw [z] at hy; exact hy)
                rcases this with z | z
                · exact Or.inl ((hmem y).mpr (Or.inl z))
                · rcases List.mem_cons.mp z with z | z
                  · exact Or.inl ((hmem y).mpr (Or.inr z))
                  · exact Or.inr (i2 y z)
              · obtain ⟨b1, b2⟩ := h3 C c0 cc
                refine ⟨fun q hq => ?_, fun y hy => ?_⟩
                · rcases List.mem_append.mp hq with z | z
                  · exact b1 q z
                  · rw [List.mem_singleton] at z
                    rw [z]
                    exact b2 v List.mem_cons_self
                · rcases i1 y hy with z | ⟨k', z, _⟩
                  · exact b2 y (List.mem_cons_of_mem _ z)
                  · omega
            · obtain ⟨r0, r1, r2⟩ := row D v hvd
              have wv := (w1 v (by rw [emk]; exact hv)).2
              by_cases hk1 : kd (eT T D) v = -1
              · -- a GONE step: it has no parts
                have a0 : ar (eT T D) v = 0 := by
                  unfold ar
                  rw [hk1, if_neg (by omega), if_neg (by omega), if_neg (by omega), if_neg (by omega)]
                rw [a0] at hl1 i1 wv
                have chn : ch T v = [] := by
                  have hf : ∀ k, k < 3 → pf T v k = [] := fun k hk => by
                    unfold pf
                    rw [← r2 k hk, (wv k hk).2 (Nat.zero_le _), if_neg (by decide)]
                  rw [ch_eq, hf 0 (by decide), hf 1 (by decide), hf 2 (by decide)]
                  rfl
                have hac2 : ac (eT T (D ++ [(v, 0)])) ≤ ac (eT T D) := by
                  rw [← eD]
                  show cnt _ (mk (eT T D)) ≤ cnt _ (mk (eT T D))
                  refine cnt_mono (fun i _ hi => ?_)
                  rw [decide_eq_true_eq] at hi ⊢
                  intro e
                  apply hi
                  show (clr (eT T D) v (-1) 0).1 0 i = -1
                  rw [clr_at]
                  split
                  · rfl
                  · rw [if_neg (by omega), if_neg (by omega), if_neg (by omega)]
                    exact e
                refine ih L1 (D ++ [(v, 0)]) g3 (by omega) (by omega) (by rw [← eD]; exact wk_clr w1) (SN_eq hS1 (fun j _ => by rw [x3.1 11 (by decide)])) (fun y hy => ?_) ?_ (fun q hq y hy => ?_) (fun C c0 cc => ?_) (x2.tr (x3.wd (by decide) (by decide))) ((x3.1 5 (by decide)).trans f5) ((x3.1 6 (by decide)).trans f6) ((x3.1 7 (by decide)).trans f7) ((x3.1 8 (by decide)).trans f8) M3
                · rcases i1 y hy with z | ⟨k', z, _⟩
                  · exact hL y (List.mem_cons_of_mem _ z)
                  · omega
                · rcases h1 with z | z
                  · exact Or.inl ((hmem s).mpr (Or.inl z))
                  · rcases List.mem_cons.mp z with z | z
                    · exact Or.inl ((hmem s).mpr (Or.inr z))
                    · exact Or.inr (i2 s z)
                · rcases List.mem_append.mp hq with z | z
                  · rcases h2 q z y hy with z | z
                    · exact Or.inl ((hmem y).mpr (Or.inl z))
                    · rcases List.mem_cons.mp z with z | z
                      · exact Or.inl ((hmem y).mpr (Or.inr z))
                      · exact Or.inr (i2 y z)
                  · rw [List.mem_singleton] at z
                    rw [z, chn] at hy
                    cases hy
                · obtain ⟨b1, b2⟩ := h3 C c0 cc
                  refine ⟨fun q hq => ?_, fun y hy => ?_⟩
                  · rcases List.mem_append.mp hq with z | z
                    · exact b1 q z
                    · rw [List.mem_singleton] at z
                      rw [z]
                      exact b2 v List.mem_cons_self
                  · rcases i1 y hy with z | ⟨k', z, _⟩
                    · exact b2 y (List.mem_cons_of_mem _ z)
                    · omega
              · have hac2 : ac (eT T (D ++ [(v, 0)])) < ac (eT T D) := by
                  rw [← eD]
                  exact ac_clr (by rw [emk]; exact hv) hk1
                refine ih L1 (D ++ [(v, 0)]) g3 (by omega) (by omega) (by rw [← eD]; exact wk_clr w1) (SN_eq hS1 (fun j _ => by rw [x3.1 11 (by decide)])) (fun y hy => ?_) ?_ (fun q hq y hy => ?_) (fun C c0 cc => ?_) (x2.tr (x3.wd (by decide) (by decide))) ((x3.1 5 (by decide)).trans f5) ((x3.1 6 (by decide)).trans f6) ((x3.1 7 (by decide)).trans f7) ((x3.1 8 (by decide)).trans f8) M3
                · rcases i1 y hy with z | ⟨k', _, z2, z3⟩
                  · exact hL y (List.mem_cons_of_mem _ z)
                  · have := (wv k' z2).1
                    rw [emk] at this
                    omega
                · rcases h1 with z | z
                  · exact Or.inl ((hmem s).mpr (Or.inl z))
                  · rcases List.mem_cons.mp z with z | z
                    · exact Or.inl ((hmem s).mpr (Or.inr z))
                    · exact Or.inr (i2 s z)
                · rcases List.mem_append.mp hq with z | z
                  · rcases h2 q z y hy with z | z
                    · exact Or.inl ((hmem y).mpr (Or.inl z))
                    · rcases List.mem_cons.mp z with z | z
                      · exact Or.inl ((hmem y).mpr (Or.inr z))
                      · exact Or.inr (i2 y z)
                  · rw [List.mem_singleton] at z
                    rw [z] at hy
                    obtain ⟨k', hk', h0, rfl⟩ := mem_ch.mp hy
                    right
                    have h0 : 0 ≤ pt T v k' := h0
                    have hka : k' < ar (eT T D) v := Classical.byContradiction fun q => by
                      have := (wv k' hk').2 (by omega)
                      rw [r2 k' hk'] at this
                      omega
                    have := i3 k' hka (by rw [r2 k' hk']; exact h0)
                    rw [r2 k' hk'] at this
                    exact this
                · obtain ⟨b1, b2⟩ := h3 C c0 cc
                  have cv := b2 v List.mem_cons_self
                  refine ⟨fun q hq => ?_, fun y hy => ?_⟩
                  · rcases List.mem_append.mp hq with z | z
                    · exact b1 q z
                    · rw [List.mem_singleton] at z
                      rw [z]
                      exact cv
                  · rcases i1 y hy with z | ⟨k', _, z2, z3⟩
                    · exact b2 y (List.mem_cons_of_mem _ z)
                    · rw [r2 k' z2] at z3
                      exact cc v cv y (mem_ch.mpr ⟨k', z2, by omega, by omega⟩)
          | succ d ihd =>
            intro k L1 g2 hk hS1 hl1 i1 i2 i3 x2 f5 f6 f7 f8 M2
            have hk3 : k < 3 := by omega
            refine sX9_goesRest_33 ⟨fun z => absurd z (by omega), fun _ => ⟨by unfold inR; omega, by unfold inR; omega, 3 * v + k, by omega, by omega, ?_⟩⟩
            rw [M2.p (by rw [emk]; exact hv) hk3]
            refine ⟨fun z => ⟨by unfold inR; omega, ?_⟩, fun z => ⟨L1.length, rfl, by omega, by unfold inR; omega, by unfold inR; omega, ?_⟩⟩
            · refine ihd (k + 1) L1 g2 (by omega) hS1 (by omega) (fun y hy => ?_) i2 (fun k' hk' h0 => ?_) x2 f5 f6 f7 f8 M2
              · rcases i1 y hy with q | ⟨k', q1, q2, q3⟩
                · exact Or.inl q
                · exact Or.inr ⟨k', by omega, q2, q3⟩
              · by_cases e : k' = k
                · rw [e, z] at h0
                  exact absurd h0 (by decide)
                · exact i3 k' (by omega) h0
            · have hp0 := ((w1 v (by rw [emk]; exact hv)).2 k hk3).1.resolve_left z
              have hlen2 : (((pt (eT T D) v k).toNat :: L1).length : Int) = (L1.length : Int) + 1 := by simp
              have := ihd (k + 1) ((pt (eT T D) v k).toNat :: L1) (hA g2 11 L1.length (pt (eT T D) v k)) (by omega) ⟨by rw [hA_at, if_pos ⟨rfl, rfl⟩]; omega, SN_eq hS1 (fun j hj => by rw [hA_at, if_neg (by omega)])⟩ (by simp; omega) (fun y hy => ?_) (fun y hy => List.mem_cons_of_mem _ (i2 y hy)) (fun k' hk' h0 => ?_) (x2.A ⟨by decide, by decide⟩) ?_ ?_ ?_ ?_ (M2.oth (by decide) _ _)
              · rw [hlen2] at this
                exact this
              · rcases List.mem_cons.mp hy with q | q
                · exact Or.inr ⟨k, by omega, hk3, by omega⟩
                · rcases i1 y q with q | ⟨k', q1, q2, q3⟩
                  · exact Or.inl q
                  · exact Or.inr ⟨k', by omega, q2, q3⟩
              · by_cases e : k' = k
                · rw [e]
                  exact List.mem_cons_self
                · exact List.mem_cons_of_mem _ (i3 k' (by omega) h0)
              all_goals
                first
                  | exact f5
                  | exact f6
                  | exact f7
                  | exact f8
        exact inner (ar (eT T D) v) 0 L g1 (by omega) hS.2 (by omega) (fun y hy => Or.inl hy) (fun y hy => hy) (fun k' hk' => by omega) x e5 e6 e7 e8 M1
  refine sX9_goesRest_0 ?_
  exact key (3 * ac T + 1) [s] [] (hA g 11 0 (s : Int)) (Nat.le_refl _) (by show 1 + 2 * ac T ≤ _; omega) hw ⟨by rw [hA_at, if_pos ⟨rfl, rfl⟩], trivial⟩ (fun x hx => by rw [List.mem_singleton] at hx; rw [hx]; exact hs) (Or.inr (by simp)) (fun q hq => by cases hq) (fun C c0 cc => ⟨fun q hq => (by cases hq), fun x hx => by rw [List.mem_singleton] at hx; rw [hx]; exact c0⟩) (gf.rf.A ⟨by decide, by decide⟩) rfl rfl rfl rfl (M.oth (by decide) _ _)
end GR
