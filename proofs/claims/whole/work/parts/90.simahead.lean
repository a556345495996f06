/-! AHEAD: what was held comes back; both sides answer alike -/
section SA
variable {t : TV} {r : Int}
/-- a state is held, not yet kept -/
def HU (us : List TV) (t : TV) (h : Hp) : Prop := ∃ f, CPf us f h ∧ slot (46 + 7 * ((f + us.length) % 13)) t h ∧ (f + us.length) % 13 < h.2.2
theorem HU.kp {us : List TV} {h h' : Hp} (x : HU us t h) (e : aw h h') : HU us t h' := by
  obtain ⟨f, x1, x2, x3⟩ := x
  exact ⟨f, x1.kp (e.1 38 (by decide)).2 e.2 (fun a ha => e.1 a (by omega)), x2.kp (e.1 _ (by omega)).2 (fun i hi => (e.1 _ (by omega)).1), by rw [e.2]; exact x3⟩
theorem c_hold1 {us : List TV} {h : Hp} {Q : Hp → Prop} (R : RC t h) (C : CP us h) (p : ∀ h', (∀ a, a < 46 → h'.1 a = h.1 a ∧ h'.2.1 a = h.2.1 a) → HU us t h' → Q h') : Cl1 shC mX4_hold [pR 38, pR 2] h (fun _ h1 => Q h1) := by
  obtain ⟨f, x1, x2, x3, x4, x5, x6, x7, x8⟩ := C
  have hm := R.m
  have hcond : (f + us.length) % 13 ≤ h.2.2 := by
    by_cases e : f = 0
    · have := x5 e
      rw [e, Nat.zero_add, Nat.mod_eq_of_lt (by omega)]
      exact this
    · have := x6 e
      have := Nat.mod_lt (f + us.length) (show 0 < 13 by decide)
      omega
  have k13 := Nat.mod_lt (f + us.length) (show 0 < 13 by decide)
  have hh : ∃ h0 : Hp, (if (f + us.length) % 13 < h.2.2 then h else fresh h) = h0 ∧ (∀ a, a < 46 → h0.1 a = h.1 a ∧ h0.2.1 a = h.2.1 a) ∧ (f + us.length) % 13 < h0.2.2 ∧ h.2.2 ≤ h0.2.2 ∧ h0.2.2 ≤ 13 ∧ ∀ i u, us[i]? = some u → slot (46 + 7 * ((f + i) % 13)) u h0 := by
    by_cases c : (f + us.length) % 13 < h.2.2
    · exact ⟨h, if_pos c, fun _ _ => ⟨rfl, rfl⟩, c, Nat.le_refl _, x7, x8⟩
    · have hf0 : f = 0 := Classical.byContradiction fun q => by
        have := x6 q
        omega
      refine ⟨fresh h, if_neg c, fun a ha => ⟨?_, ?_⟩, ?_, ?_, ?_, fun i u hu => ?_⟩
      · funext j
        show (if 46 + 7 * h.2.2 ≤ a then 0 else h.1 a j) = h.1 a j
        rw [if_neg (by omega)]
      · funext j
        show (if 46 + 7 * h.2.2 ≤ a then 0 else h.2.1 a j) = h.2.1 a j
        rw [if_neg (by omega)]
      · show _ < h.2.2 + 1
        omega
      · show h.2.2 ≤ h.2.2 + 1
        omega
      · show h.2.2 + 1 ≤ 13
        omega
      · have hi := (List.getElem?_eq_some_iff.mp hu).1
        have h5 := x5 hf0
        have hki : (f + i) % 13 = i := by rw [hf0, Nat.zero_add, Nat.mod_eq_of_lt (by omega)]
        refine (x8 i u hu).kp ?_ (fun j hj => ?_)
        · funext j
          show (if 46 + 7 * h.2.2 ≤ 46 + 7 * ((f + i) % 13) then 0 else _) = _
          rw [if_neg (by omega)]
        · funext q
          show (if 46 + 7 * h.2.2 ≤ 46 + 7 * ((f + i) % 13) + 1 + j then 0 else _) = _
          rw [if_neg (by omega)]
  obtain ⟨h0, e0, y1, y2, y3, y4, y5⟩ := hh
  refine c_hold (f := f) (z := us.length) (m := mk t) (r := rt t) x1 x3 (by omega) hcond R.1 R.2.1 hm.1 hm.2 ?_
  rw [e0]
  have R0 : RC t h0 := hk.rc (h := h) (fun a ha _ => y1 a ha) R
  have s1 := slot_cp (o := 46 + 7 * ((f + us.length) % 13)) R0 (by omega)
  have fr1 := cpR_fr (h := h0) (o := 46 + 7 * ((f + us.length) % 13)) (s := 2) (m := mk t) (r := rt t)
  have ot : ∀ i u, us[i]? = some u → (f + i) % 13 ≠ (f + us.length) % 13 → slot (46 + 7 * ((f + i) % 13)) u (cpR h0 (46 + 7 * ((f + us.length) % 13)) 2 (mk t) (rt t)) := fun i u hu hne =>
    (y5 i u hu).kp (fr1.i (by omega)) (fun j hj => fr1.a (by omega))
  have e38 : (cpR h0 (46 + 7 * ((f + us.length) % 13)) 2 (mk t) (rt t)).2.1 38 = h.2.1 38 := (fr1.i (by omega)).trans (y1 38 (by decide)).2
  have ec : (cpR h0 (46 + 7 * ((f + us.length) % 13)) 2 (mk t) (rt t)).2.2 = h0.2.2 := fr1.2
  have elo : ∀ a, a < 46 → (cpR h0 (46 + 7 * ((f + us.length) % 13)) 2 (mk t) (rt t)).1 a = h.1 a ∧ (cpR h0 (46 + 7 * ((f + us.length) % 13)) 2 (mk t) (rt t)).2.1 a = h.2.1 a := fun a ha => ⟨(fr1.a (by omega)).trans (y1 a ha).1, (fr1.i (by omega)).trans (y1 a ha).2⟩
  generalize cpR h0 (46 + 7 * ((f + us.length) % 13)) 2 (mk t) (rt t) = h1 at *
  refine p h1 elo ⟨f, ⟨by rw [e38]; exact x1, x2, by rw [e38]; exact x3, x4, fun e => ?_, fun e => ?_, by rw [ec]; exact y4, fun i u hu => ot i u hu ?_⟩, s1, by rw [ec]; exact y2⟩
  · rw [ec]
    have := x5 e
    omega
  · rw [ec]
    have := x6 e
    omega
  · have := (List.getElem?_eq_some_iff.mp hu).1
    omega
theorem c_keep1 {us : List TV} {h : Hp} {Q : Int → Hp → Prop} (H : HU us t h) (p : ∀ h', hk h h' → h'.2.2 = h.2.2 → CP (pushU us t) h' → Q 0 h') : Cl shC mX4_keepHeld [pR 38] h Q := by
  obtain ⟨f, ⟨x1, x2, x3, x4, x5, x6, x7, x8⟩, s1, hc⟩ := H
  have hI1 : ∀ kk z, hk h (hI h 38 kk z) := fun kk z a ha hne => ⟨rfl, by
    funext j
    rw [hI_at, if_neg (by omega)]⟩
  have tr : ∀ k z o, 46 ≤ o → ∀ v, slot o v h → slot o v (hI h 38 k z) := fun k z o ho v s => s.kp (by funext j; rw [hI_at, if_neg (by omega)]) (fun _ _ => rfl)
  refine sX4_keepHeld_0 ?_
  rw [x1, x3]
  refine ⟨fun c => ⟨by unfold inR; omega, ?_⟩, fun c => ⟨by unfold inR; omega, ?_⟩⟩
  · have hl : us.length = 12 := by omega
    have eb : b_irem ((f : Int) + 1) 13 = (((f + 1) % 13 : Nat) : Int) := b_irem_n (a := f + 1) (b := 13) (by omega) (by decide) (by decide)
    rw [eb]
    have hlp : (pushU us t).length = 12 := by
      unfold pushU
      rw [if_pos hl, List.length_append, List.length_drop, hl]
      rfl
    have h13 : h.2.2 = 13 := by
      by_cases e : f = 0
      · rw [e, hl] at hc; omega
      · exact x6 e
    refine p _ (hI1 _ _) rfl ⟨(f + 1) % 13, ?_, Nat.mod_lt _ (by decide), ?_, ?_, ?_, ?_, ?_, fun i u hu => ?_⟩
    · rw [hI_at, if_pos ⟨rfl, rfl⟩]
    · rw [hI_at, if_neg (by omega), x3, hlp, hl]
    · rw [hlp]
      exact Nat.le_refl 12
    · intro _
      show _ ≤ h.2.2
      rw [hlp]
      omega
    · exact fun _ => h13
    · show h.2.2 ≤ 13
      omega
    · unfold pushU at hu
      rw [if_pos hl] at hu
      have hd : (us.drop 1).length = 11 := by rw [List.length_drop, hl]
      by_cases hi : i < 11
      · rw [List.getElem?_append_left (by omega), List.getElem?_drop] at hu
        have e1 : ((f + 1) % 13 + i) % 13 = (f + (1 + i)) % 13 := by omega
        rw [e1]
        exact tr _ _ _ (by omega) u (x8 (1 + i) u hu)
      · rw [List.getElem?_append_right (by omega)] at hu
        have h00 : i - (us.drop 1).length = 0 := by
          have := (List.getElem?_eq_some_iff.mp hu).1
          simp at this
          omega
        rw [h00] at hu
        have h11 : i = 11 := by omega
        cases hu
        have e1 : ((f + 1) % 13 + i) % 13 = (f + us.length) % 13 := by omega
        rw [e1]
        exact tr _ _ _ (by omega) t s1
  · have hp : pushU us t = us ++ [t] := by
      unfold pushU
      rw [if_neg (by omega)]
    rw [hp] at p
    refine p _ (hI1 _ _) rfl ⟨f, ?_, x2, ?_, ?_, ?_, ?_, ?_, fun i u hu => ?_⟩
    · rw [hI_at, if_neg (by omega)]; exact x1
    · rw [hI_at, if_pos ⟨rfl, rfl⟩, List.length_append]
      rfl
    · rw [List.length_append]
      show us.length + 1 ≤ 12
      omega
    · intro e
      show _ ≤ h.2.2
      rw [List.length_append]
      show us.length + 1 ≤ h.2.2
      rw [e, Nat.zero_add, Nat.mod_eq_of_lt (by omega)] at hc
      omega
    · exact fun e => x6 e
    · exact x7
    · by_cases hi : i < us.length
      · rw [List.getElem?_append_left hi] at hu
        exact tr _ _ _ (by omega) u (x8 i u hu)
      · rw [List.getElem?_append_right (by omega)] at hu
        have h00 : i - us.length = 0 := by
          have := (List.getElem?_eq_some_iff.mp hu).1
          simp at this
          omega
        rw [h00] at hu
        have h11 : i = us.length := by omega
        cases hu
        rw [h11]
        exact tr _ _ _ (by omega) t s1
theorem c_bring1 {us : List TV} {h : Hp} {Q : Int → Hp → Prop} (H : HU us t h) (p : ∀ h', fr 2 8 h h' → RC t h' → CP us h' → Q 0 h') : Cl shC mX4_bringBackHeld [pR 38, pR 2] h Q := by
  obtain ⟨f, C, s1, hc⟩ := H
  have C2 : CP us h := ⟨f, C⟩
  obtain ⟨x1, x2, x3, x4, _⟩ := C
  refine c_bring (f := f) (z := us.length) (m := mk t) (r := rt t) x1 x3 (by omega) hc s1.1 s1.2.1 s1.2.2.1 s1.2.2.2.1 ?_
  have f3 := cpR_fr (h := h) (o := 2) (s := 46 + 7 * ((f + us.length) % 13)) (m := mk t) (r := rt t)
  exact p _ (f3.wd (by decide) (by decide)) (rc_cp s1 (by omega)) (C2.fw f3 (Or.inl (by decide)))
/-! the reference's loops -/
def ma (m : Nat) (h h' : Hp) : Prop := (∀ a, (a = 0 ∨ a = 8 ∨ a = 12 ∨ (13 < a ∧ a ≠ 22 ∧ a ≠ 23)) → h'.1 a = h.1 a) ∧ (∀ s, h'.1 5 s = h.1 5 s ∨ (m ≤ s ∧ h'.1 5 s = 0)) ∧ (∀ o k, ¬ (o = 0 ∧ k = 0) → h'.2.1 o k = h.2.1 o k) ∧ h'.2.2 = h.2.2
theorem ma.rf {m : Nat} {h : Hp} : ma m h h := ⟨fun _ _ => rfl, fun _ => Or.inl rfl, fun _ _ _ => rfl, rfl⟩
theorem ma.tr {m m' : Nat} {h h1 h2 : Hp} (x : ma m h h1) (y : ma m' h1 h2) (hm : m ≤ m') : ma m h h2 := by
  refine ⟨fun a ha => (y.1 a ha).trans (x.1 a ha), fun s => ?_, fun o k q => (y.2.2.1 o k q).trans (x.2.2.1 o k q), y.2.2.2.trans x.2.2.2⟩
  rcases y.2.1 s with e | ⟨e1, e2⟩
  · rcases x.2.1 s with f | ⟨f1, f2⟩
    · exact Or.inl (e.trans f)
    · exact Or.inr ⟨f1, e.trans f2⟩
  · exact Or.inr ⟨by omega, e2⟩
theorem ma.mz {m m' : Nat} {h h1 h2 : Hp} (x : ma m h h1) (y : mz m' h1 h2) (hm : m ≤ m') : ma m h h2 := x.tr ⟨fun a ha => y.1 a (by omega), y.2.1, y.2.2.1, y.2.2.2⟩ hm
theorem ma.go {m : Nat} {h h1 h2 : Hp} (x : ma m h h1) (y : fm 9 11 h1 h2) : ma m h h2 := x.mz (m' := m) (mz.rf.go y) (Nat.le_refl _)
theorem ma.A {m : Nat} {h h1 : Hp} (x : ma m h h1) (i : Nat) (z : Int) : ma m h (hA h1 23 i z) :=
  x.tr (m' := m) ⟨fun b hb => by
    funext j
    rw [hA_at, if_neg (by omega)], fun s => Or.inl (by rw [hA_at, if_neg (by omega)]), fun _ _ _ => rfl, rfl⟩ (Nat.le_refl _)
section MA
variable {g : Hp} {P : Int → Hp → Prop}
theorem und_back {m : Nat} (M : RM (und t m) g) (hm : mk t ≤ m) (h6 : mk t ≤ 600) : RM t (hI g 0 0 (mk t : Int)) := by
  obtain ⟨r1, r2, r3, r4, r5, r6, r7⟩ := M
  refine ⟨by rw [hI_at, if_pos ⟨rfl, rfl⟩], by rw [hI_at, if_neg (by omega)]; exact r2, h6, r4, fun s hs => ?_, fun j hj => ?_, fun q hq => r7 q hq⟩
  · have := r5 s (by show s < m; omega)
    rw [und_kd, und_nm, und_up, if_pos hs, if_pos hs, if_pos hs] at this
    exact this
  · have h1 := r6 j (by show j < 3 * m; omega)
    have e : (und t m).1 2 j = t.1 2 j := by
      show (if j / 3 < mk t then t.1 2 j else -4) = _
      rw [if_pos (by omega)]
    rw [e] at h1
    exact h1
theorem m_astep {U : TV} {g1 : Hp} {k : Nat} (hk : r = (k : Int)) (v2 : Int) (x : ma (mk t) g g1) (M : RM U g1) (K : KQ t U) (hkr : k < rt U) (hb : bdI U r ≠ -4)
    (q0 : ftb U r = -4 → ∀ g2, ma (mk t) g g2 → RM U g2 → Ok shM 0 0 mX9_ahead 47 [some (pR 0), some (pI r), some (pI v2), some (pI (mk t : Int)), some (pI 0), none, none, none] [] g2 P)
    (q1 : ∀ s : Nat, ftb U r = (s : Int) → ¬ ful U r s → ∀ g2, ma (mk t) g g2 → RM (wrk U r s) g2 → Ok shM 0 0 mX9_ahead 47 [some (pR 0), some (pI r), some (pI v2), some (pI (mk t : Int)), some (pI 1), none, none, none] [] g2 P)
    (q2 : ∀ s : Nat, ftb U r = (s : Int) → ful U r s → ∀ g2, ma (mk t) g g2 → RM U g2 → Cl shM mX9_back [pR 0, pI 12] g2 (fun _ h3 => P (-3) (hI h3 0 0 (mk t : Int)))) : Ok shM 0 0 mX9_ahead 47 [some (pR 0), some (pI r), some (pI v2), some (pI (mk t : Int)), some (pI 1), none, none, none] [] g1 P := by
  have w := K.1
  have hmm := w.m
  have hr : 0 ≤ r ∧ r < (rt U : Int) := by omega
  have hbe : bdI U r = bd U k := by
    unfold bdI
    rw [if_pos hr, hk, Int.toNat_natCast]
  have hal : al U (bdI U r) := by
    rw [hbe] at hb ⊢
    exact ((w.2.2.1 k hkr).2.2.resolve_left hb).1
  have hlen := plist_len (t := U) (z := bdI U r) w.trr
  refine sX9_ahead_47 ⟨fun c => absurd c (by decide), fun _ => ⟨k, hk, by omega, ?_⟩⟩
  rw [M.b hkr, ← hbe]
  refine m_goes' w M hal (fun g2 f2 hO _ => ?_)
  have M2 := M.kp f2 (by decide)
  have x2 := x.go f2
  have hundred : ∀ (D2 D1 : List (Nat × Nat)) (g3 : Hp), D1 ++ D2 = plist U (bdI U r) → ma (mk t) g g3 → RM U g3 → (∀ j p, (plist U (bdI U r))[j]? = some p → g3.1 23 j = (p.1 : Int)) → ftb U r = ftc U r D2 → Ok shM 0 0 mX9_ahead 100 [some (pR 0), some (pI r), some (pI v2), some (pI (mk t : Int)), some (pI 0), some (pI ((plist U (bdI U r)).length : Int)), some (pI (D1.length : Int)), none] [] g3 P := by
    intro D2
    induction D2 with
    | nil =>
      intro D1 g3 he x3 M3 hA e
      rw [List.append_nil] at he
      exact sX9_ahead_100 ⟨fun _ => q0 e g3 x3 M3, fun c => absurd (by rw [← he]; exact Int.le_refl _) c⟩
    | cons q D2 ih =>
      intro D1 g3 he x3 M3 hA e
      have hl : D1.length < (plist U (bdI U r)).length := by rw [← he]; simp
      have hq : (plist U (bdI U r))[D1.length]? = some q := by rw [← he]; simp
      have hqm := plist_at w (List.mem_of_getElem? hq)
      have hlen2 : ((D1 ++ [q]).length : Int) = (D1.length : Int) + 1 := by simp
      have nx := fun g4 => ih (D1 ++ [q]) g4 (by rw [← he]; simp)
      rw [hlen2] at nx
      refine sX9_ahead_100 ⟨fun c => absurd c (by omega), fun _ => ⟨fun c => absurd rfl c, fun _ => ⟨D1.length, rfl, by omega, ?_⟩⟩⟩
      rw [hA _ _ hq]
      have hhr := hld_r U r q.1
      refine m_holds w M3 hr hal hqm.1 hqm.2 (fun g4 f4 => ⟨fun c => ⟨by unfold inR; omega, nx g4 (x3.go f4) (M3.kp f4 (by decide)) (fun j p hj => by rw [f4.1 23 (by decide)]; exact hA j p hj) ?_⟩, fun c => ?_⟩)
      · rw [e, ftc, if_pos (by omega)]
      · have hh : hld U r q.1 ≠ 0 := by omega
        have e2 : ftb U r = (q.1 : Int) := by rw [e, ftc, if_neg hh]
        have M4 := M3.kp f4 (by decide)
        have e23 : g4.1 23 D1.length = (q.1 : Int) := by rw [f4.1 23 (by decide)]; exact hA _ _ hq
        rw [e23]
        have x4 := x3.go f4
        refine m_works w M4 hqm.1 hqm.2 hh (fun nf g5 x5 M5 => ⟨fun _ => ⟨by unfold inR; omega, ?_⟩, fun c => absurd c (by decide)⟩) (fun f g5 f5 => ⟨fun c => absurd rfl c, fun _ => q2 q.1 e2 f g5 (x4.go f5) (M4.kp f5 (by decide))⟩)
        have fin := q1 q.1 e2 nf g5 (x4.mz x5 K.2.1) M5
        exact sX9_ahead_100 ⟨fun _ => fin, fun _ => ⟨fun _ => fin, fun c => absurd c (by decide)⟩⟩
  have copy : ∀ (d i : Nat) (g3 : Hp), i + d = (plist U (bdI U r)).length → ma (mk t) g g3 → RM U g3 → g3.1 9 = g2.1 9 → (∀ j, j < i → g3.1 23 j = g2.1 9 j) → Ok shM 0 0 mX9_ahead 70 [some (pR 0), some (pI r), some (pI v2), some (pI (mk t : Int)), some (pI 0), some (pI ((plist U (bdI U r)).length : Int)), some (pI (i : Int)), none] [] g3 P := by
    intro d
    induction d with
    | zero =>
      intro i g3 hi x3 M3 e9 e23
      refine sX9_ahead_70 ⟨fun _ => hundred (plist U (bdI U r)) [] g3 rfl x3 M3 (fun j p hj => ?_) rfl, fun c => absurd c (by omega)⟩
      have hj2 := (List.getElem?_eq_some_iff.mp hj).1
      rw [e23 j (by omega)]
      exact hO j p hj
    | succ d ih =>
      intro i g3 hi x3 M3 e9 e23
      refine sX9_ahead_70 ⟨fun c => absurd c (by omega), fun _ => ⟨i, rfl, by omega, by unfold inR; omega, ?_⟩⟩
      refine ih (i + 1) _ (by omega) (x3.A _ _) (M3.oth (Or.inr (Or.inr (by decide))) _ _) ?_ (fun j hj => ?_)
      · funext j
        rw [hA_at, if_neg (by omega)]
        exact congrFun e9 j
      · rw [hA_at]
        by_cases e : j = i
        · rw [if_pos ⟨rfl, e⟩, e, e9]
        · rw [if_neg (fun y => e y.2)]
          exact e23 j (by omega)
  exact copy _ 0 g2 (Nat.zero_add _) x2 M2 rfl (fun j hj => absurd hj (Nat.not_lt_zero _))
theorem ac_pos {U : TV} {s : Nat} (hs : s < mk U) (hk : kd U s ≠ -1) : 0 < ac U := by
  have := cnt_lt (p := fun _ => false) (q := fun x => decide (kd U x ≠ -1)) (n := mk U) (fun i _ hd => absurd hd (by decide)) ⟨s, hs, decide_eq_true hk, rfl⟩
  show 0 < cnt _ (mk U)
  omega
theorem m_alop {k : Nat} (w : WF t) (hk : r = (k : Int)) (hkr : k < rt t) (hb : bdI t r ≠ -4) (v2 : Int) (K12 : keptS 12 t g) (M : RM t g)
    (p1 : ∀ U, aN t r 600 = some U → KQ t U → ∀ g', ma (mk t) g g' → RM U g' → Ok shM 0 0 mX9_ahead 47 [some (pR 0), some (pI r), some (pI v2), some (pI (mk t : Int)), some (pI 0), none, none, none] [] g' P)
    (p0 : aN t r 600 = none → ∀ g' g'', ma (mk t) g g' → bk g' g'' → RM t (hI g'' 0 0 (mk t : Int)) → P (-3) (hI g'' 0 0 (mk t : Int))) : Ok shM 0 0 mX9_ahead 47 [some (pR 0), some (pI r), some (pI v2), some (pI (mk t : Int)), some (pI 1), none, none, none] [] g P := by
  have hm := w.m
  have key : ∀ (n : Nat) (U : TV) (g1 : Hp), ac U ≤ n → ma (mk t) g g1 → RM U g1 → KQ t U → aN U r n = aN t r 600 → Ok shM 0 0 mX9_ahead 47 [some (pR 0), some (pI r), some (pI v2), some (pI (mk t : Int)), some (pI 1), none, none, none] [] g1 P := by
    intro n
    induction n with
    | zero =>
      intro U g1 hac x M1 K e
      have hkU : k < rt U := by rw [K.2.2.1]; exact hkr
      have hbU : bdI U r ≠ -4 := by
        have h1 : bdI U r = bd U r.toNat := if_pos (by omega)
        have h2 : bdI t r = bd t r.toNat := if_pos (by omega)
        rw [h1]
        rw [h2] at hb
        exact fun q => hb ((K.2.2.2.2.1 _).mp q)
      have no : ∀ s : Nat, ftb U r = (s : Int) → False := fun s es => by
        obtain ⟨s2, _, h1, h2, _⟩ := ftb_at K.1 (show ftb U r ≠ -4 by omega)
        have := ac_pos h1 h2
        omega
      exact m_astep hk v2 x M1 K hkU hbU (fun _ g2 x2 M2 => p1 U e.symm K g2 x2 M2) (fun s es => (no s es).elim) (fun s es => (no s es).elim)
    | succ n ih =>
      intro U g1 hac x M1 K e
      have hkU : k < rt U := by rw [K.2.2.1]; exact hkr
      have hbU : bdI U r ≠ -4 := by
        have h1 : bdI U r = bd U r.toNat := if_pos (by omega)
        have h2 : bdI t r = bd t r.toNat := if_pos (by omega)
        rw [h1]
        rw [h2] at hb
        exact fun q => hb ((K.2.2.2.2.1 _).mp q)
      refine m_astep hk v2 x M1 K hkU hbU (fun e4 g2 x2 M2 => ?_) (fun s es nf g2 x2 M2 => ?_) (fun s es f g2 x2 M2 => ?_)
      · rw [aN, if_pos e4] at e
        exact p1 U e.symm K g2 x2 M2
      · have hne : ftb U r ≠ -4 := by omega
        obtain ⟨s2, es2, hs, hks, hh⟩ := ftb_at K.1 hne
        have hs2 : s2 = s := by omega
        subst hs2
        have ets : (ftb U r).toNat = s2 := by omega
        rw [aN, if_neg hne, ets, if_neg (fun q => nf (dC_iff.mp q))] at e
        have kp := kp_wrk K.1 hs hks hh nf
        have := kp.2.2.2.2.2
        exact ih (wrk U r s2) g2 (by omega) x2 M2 (K.st kp) e
      · have hne : ftb U r ≠ -4 := by omega
        have ets : (ftb U r).toNat = s := by omega
        rw [aN, if_neg hne, ets, if_pos (dC_t f)] at e
        refine m_back M2 (K12.kp (x2.1 19 (by decide)) (x2.1 20 (by decide)) (x2.1 21 (by decide))) (by decide) ⟨w, K.2.2.1.symm, fun r _ => (K.2.2.2.1 r).symm, K.2.1⟩ (fun g3 b3 M3 => p0 e.symm g2 g3 x2 b3 (und_back M3 K.2.1 hm.1))
  exact key 600 t g (Nat.le_trans (cnt_le _ _) hm.1) ma.rf M (KQ.rf w) rfl
end MA
end SA
