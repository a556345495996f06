/-! AHEAD: what holds for a step, the class -/
section HC
variable {t : TV}
abbrev xN (t : TV) (s : Nat) : Nat := (pt t s 0).toNat
abbrev yN (t : TV) (s : Nat) : Nat := (pt t s 1).toNat
def hmy (t : TV) (D : List (Nat × Nat)) (k v : Int) : Nat := D.foldl (fun a q => if kd t q.1 = k ∧ nm t q.1 = v then a + 1 else a) 0
theorem hmy_snoc (D : List (Nat × Nat)) (q : Nat × Nat) (k v : Int) : hmy t (D ++ [q]) k v = if kd t q.1 = k ∧ nm t q.1 = v then hmy t D k v + 1 else hmy t D k v := by simp [hmy]
theorem hmy_le (k v : Int) (D : List (Nat × Nat)) : hmy t D k v ≤ D.length := by
  have key : ∀ (D : List (Nat × Nat)) (a : Nat), D.foldl (fun a q => if kd t q.1 = k ∧ nm t q.1 = v then a + 1 else a) a ≤ a + D.length := by
    intro D
    induction D with
    | nil => exact fun a => Nat.le_refl _
    | cons q D ih =>
      intro a
      have := ih (if kd t q.1 = k ∧ nm t q.1 = v then a + 1 else a)
      simp only [List.foldl_cons, List.length_cons]
      split at this <;> rename_i hc
      · rw [if_pos hc]
        omega
      · rw [if_neg hc]
        omega
  have := key D 0
  unfold hmy
  omega
/-- a name set once to a number, asked for in the second part alone -/
abbrev fast (t : TV) (r : Int) (s : Nat) : Prop := kd t (xN t s) = 4 ∧ kd t (xN t (xN t s)) = 0 ∧ prI t r ≤ nm t (xN t s) ∧ hmy t (plist t (bdI t r)) 4 (nm t (xN t s)) = 1 ∧ hmy t (plist t (yN t s)) 1 (nm t (xN t s)) = hmy t (plist t (bdI t r)) 1 (nm t (xN t s))
def hld (t : TV) (r : Int) (s : Nat) : Int :=
  if kd t s = 2 then (if kd t (xN t s) = 0 ∧ kd t (yN t s) = 0 ∧ (nm t s ≠ 3 ∨ nm t (yN t s) ≠ 0) then 1 else 0)
  else if kd t s = 3 then (if kd t (xN t s) = 0 then 2 else 0)
  else if kd t s = 8 then (if kd t (xN t s) = 0 ∧ nm t (xN t s) = 0 then 3 else 0)
  else if kd t s = 5 then (if kd t (xN t s) = 0 ∨ kd t (xN t s) = 1 then 4 else if fast t r s then 6 else 0)
  else if kd t s = 11 then (if lvB t s = true then 0 else 5) else 0
/-- a part that there must be -/
theorem prt (w : WF t) {s j : Nat} (hs : s < mk t) (hk : kd t s ≠ -1) (hj : j < ar t s) (h3 : j < 3) : pt t s j = ((pt t s j).toNat : Int) ∧ (pt t s j).toNat ∈ ch t s ∧ (pt t s j).toNat < mk t ∧ kd t (pt t s j).toNat ≠ -1 := by
  have h0 := ((w.2.2.2.2.2.1 s hs hk).2.2.2 j h3).1 hj
  have hc : (pt t s j).toNat ∈ ch t s := mem_ch.mpr ⟨j, h3, h0, rfl⟩
  have := ch_al w hs hk hc
  exact ⟨by omega, hc, this⟩
theorem ar_2 {s : Nat} (h : kd t s = 2 ∨ kd t s = 5 ∨ kd t s = 8 ∨ kd t s = 10) : ar t s = 2 := by
  unfold ar
  rw [if_pos h]
theorem ar_3' {s : Nat} (h : kd t s = 3) : ar t s = 3 := by
  unfold ar
  rw [h, if_neg (by omega), if_pos rfl]
theorem ar_1 {s : Nat} (h : kd t s = 4 ∨ kd t s = 7 ∨ kd t s = 9 ∨ kd t s = 11) : ar t s = 1 := by
  unfold ar
  rw [if_neg (by omega), if_neg (by omega), if_pos h]
def rkn (op x y : Int) : Int := if op = 0 then wr (x + y) else if op = 1 then wr (x - y) else if op = 2 then wr (x * y) else if op = 3 then (if y = 0 then 0 else b_idiv x y) else if op = 4 then (if x < y then 1 else 0) else if x = y then 1 else 0
theorem c_reckon {h : Hp} {P : Int → Hp → Prop} (op x y : Int) (p : P (rkn op x y) h) : Cl shC mX8_reckon [pI op, pI x, pI y] h P := by
  unfold rkn at p
  refine sX8_reckon_0 ⟨fun c => ?_, fun c => ?_, fun c => ?_, fun c => ⟨fun c2 => ⟨c2, ?_⟩, fun c2 => ?_⟩, fun c => ⟨fun c2 => ?_, fun c2 => ?_⟩, fun c => ⟨fun c2 => ?_, fun c2 => ?_⟩⟩
  · rwa [if_pos c] at p
  · rwa [if_neg (by omega), if_pos c] at p
  · rwa [if_neg (by omega), if_neg (by omega), if_pos c] at p
  · rwa [if_neg (by omega), if_neg (by omega), if_neg (by omega), if_pos c, if_neg c2] at p
  · rwa [if_neg (by omega), if_neg (by omega), if_neg (by omega), if_pos c, if_pos c2] at p
  · rwa [if_neg (by omega), if_neg (by omega), if_neg (by omega), if_neg (by omega), if_pos c, if_neg (by omega)] at p
  · rwa [if_neg (by omega), if_neg (by omega), if_neg (by omega), if_neg (by omega), if_pos c, if_pos (by omega)] at p
  · rwa [if_neg (by omega), if_neg (by omega), if_neg (by omega), if_neg (by omega), if_neg (by omega), if_neg c2] at p
  · rwa [if_neg (by omega), if_neg (by omega), if_neg (by omega), if_neg (by omega), if_neg (by omega), if_pos c2] at p
theorem m_worked {h : Hp} {P : Int → Hp → Prop} (op x y : Int) (hy : op = 3 → y ≠ 0) (p : P (rkn op x y) h) : Cl shM mX9_worked [pI op, pI x, pI y] h P := by
  unfold rkn at p
  refine sX9_worked_0 ⟨fun c => ?_, fun c => ?_, fun c => ?_, fun c => ⟨hy c, ?_⟩, fun c => ⟨fun c2 => ?_, fun c2 => ?_⟩, fun c => ⟨fun c2 => ?_, fun c2 => ?_⟩⟩
  · rwa [if_pos c] at p
  · rwa [if_neg (by omega), if_pos c] at p
  · rwa [if_neg (by omega), if_neg (by omega), if_pos c] at p
  · rwa [if_neg (by omega), if_neg (by omega), if_neg (by omega), if_pos c, if_neg (hy c)] at p
  · rwa [if_neg (by omega), if_neg (by omega), if_neg (by omega), if_neg (by omega), if_pos c, if_neg (by omega)] at p
  · rwa [if_neg (by omega), if_neg (by omega), if_neg (by omega), if_neg (by omega), if_pos c, if_pos (by omega)] at p
  · rwa [if_neg (by omega), if_neg (by omega), if_neg (by omega), if_neg (by omega), if_neg (by omega), if_neg c2] at p
  · rwa [if_neg (by omega), if_neg (by omega), if_neg (by omega), if_neg (by omega), if_neg (by omega), if_pos c2] at p
variable {h : Hp} {P : Int → Hp → Prop}
/-- names are tallied -/
def TA (t : TV) (D : List (Nat × Nat)) (h : Hp) : Prop := ∀ k : Nat, k < 40 → h.1 36 k = (hmy t D 4 k : Int) ∧ h.1 37 k = (hmy t D 1 k : Int)
theorem c_tally (w : WF t) (R : RC t h) {z : Int} (hs : h.2.1 14 4 = ((plist t z).length : Int)) (hD : DA h 15 16 (plist t z)) (p : ∀ h', fr 36 37 h h' → TA t (plist t z) h' → P 0 h') : Cl shC mX7_tallyNames [pR 30] h P := by
  have hm := R.m
  have hlen := plist_len (t := t) (z := z) w.trr
  have key : ∀ (D2 D1 : List (Nat × Nat)) (h1 : Hp), D1 ++ D2 = plist t z → fr 36 37 h h1 → TA t D1 h1 → Ok shC 0 0 mX7_tallyNames 18 [some (pR 30), some (pI (D1.length : Int)), none, none] [] h1 P := by
    intro D2
    induction D2 with
    | nil =>
      intro D1 h1 he x ta
      rw [List.append_nil] at he
      subst he
      refine sX7_tallyNames_18 ?_
      rw [x.i (by decide), hs]
      exact ⟨fun _ => p h1 x ta, fun c => absurd (Int.le_refl _) c⟩
    | cons q D2 ih =>
      intro D1 h1 he x ta
      have R1 := R.kp x (Or.inl (by decide))
      have hl : D1.length < (plist t z).length := by rw [← he]; simp
      have hq : (plist t z)[D1.length]? = some q := by rw [← he]; simp
      have hqm := plist_at w (List.mem_of_getElem? hq)
      have hn := (w.nmr hqm.1 hqm.2).1
      have hqd : h1.1 15 D1.length = (q.1 : Int) := by rw [x.a (by decide)]; exact (hD _ _ hq).1
      have hlen2 : ((D1 ++ [q]).length : Int) = (D1.length : Int) + 1 := by simp
      have nx := fun h2 x2 ta2 => ih (D1 ++ [q]) h2 (by rw [← he]; simp) x2 ta2
      rw [hlen2] at nx
      have l4 := fun k : Nat => hmy_le (t := t) 4 k D1
      have l1 := fun k : Nat => hmy_le (t := t) 1 k D1
      refine sX7_tallyNames_18 ?_
      rw [x.i (by decide), hs]
      refine ⟨fun c => absurd c (by omega), fun _ => ⟨D1.length, rfl, by omega, ?_⟩⟩
      rw [hqd]
      refine c_numberOf R1 _ ?_
      rw [hqd]
      refine c_kindOf R1 _ ?_
      rw [kdI_at hqm.1, nmI_at hqm.1]
      have isn : (kd t q.1 = 1 ∨ kd t q.1 = 4) → 0 ≤ nm t q.1 ∧ nm t q.1 ≤ 39 := fun hk => by have := hn hk; omega
      refine ⟨fun c4 => ⟨fun c1 => ⟨by unfold inR; omega, nx h1 x (fun k hk => ?_)⟩, fun c1 => c_isName ⟨fun e => absurd (isn (Or.inl c1)) (b2_0.mp e), fun _ => ?_⟩⟩, fun c4 => c_isName ⟨fun e => absurd (isn (Or.inr c4)) (b2_0.mp e), fun _ => ?_⟩⟩
      · rw [hmy_snoc, hmy_snoc, if_neg (fun y => c4 y.1), if_neg (fun y => c1 y.1)]
        exact ta k hk
      · obtain ⟨i1, i2⟩ := isn (Or.inl c1)
        obtain ⟨v, hv⟩ := Int.eq_ofNat_of_zero_le i1
        have hta := ta v (by omega)
        refine ⟨v, hv, by omega, ?_⟩
        have := l1 v
        rw [hta.2]
        refine ⟨by unfold inR; omega, by unfold inR; omega, nx _ (x.A ⟨by decide, by decide⟩) (fun k hk => ?_)⟩
        rw [hmy_snoc, hmy_snoc, if_neg (fun y => c4 y.1), hA_at, hA_at, if_neg (by omega)]
        by_cases e : k = v
        · rw [if_pos ⟨rfl, e⟩, if_pos ⟨c1, by omega⟩, e]
          exact ⟨hta.1, rfl⟩
        · rw [if_neg (fun y => e y.2), if_neg (fun y => e (by omega))]
          exact ta k hk
      · obtain ⟨i1, i2⟩ := isn (Or.inr c4)
        obtain ⟨v, hv⟩ := Int.eq_ofNat_of_zero_le i1
        have hta := ta v (by omega)
        refine ⟨v, hv, by omega, ?_⟩
        have := l4 v
        rw [hta.1]
        refine ⟨by unfold inR; omega, by unfold inR; omega, nx _ (x.A ⟨by decide, by decide⟩) (fun k hk => ?_)⟩
        rw [hmy_snoc, hmy_snoc, if_neg (show ¬ (kd t q.1 = 1 ∧ nm t q.1 = (k : Int)) from fun y => by have := y.1; omega), hA_at, hA_at, if_neg (show ¬ ((37 : Nat) = 36 ∧ k = v) by omega)]
        by_cases e : k = v
        · rw [if_pos ⟨rfl, e⟩, if_pos ⟨c4, by omega⟩, e]
          exact ⟨rfl, hta.2⟩
        · rw [if_neg (fun y => e y.2), if_neg (fun y => e (by omega))]
          exact ta k hk
  have fl : ∀ (h1 : Hp) (a : Nat) (z : Int), 36 ≤ a → a ≤ 37 → fr 36 37 h h1 → fr 36 37 h (filA h1 a 0 40 z) := fun h1 a z ha hb x => ⟨fun b hb2 => ⟨by
    rw [← (x.1 b hb2).1]
    funext j
    show (if b = a ∧ 0 ≤ j ∧ j < 40 then z else h1.1 b j) = _
    rw [if_neg (by omega)], (x.1 b hb2).2⟩, x.2⟩
  refine sX7_tallyNames_0 (c_fill (shC_36 _) (by decide) (c_fill (shC_37 _) (by decide) ?_))
  refine key (plist t z) [] _ rfl (fl _ 37 0 (by decide) (by decide) (fl _ 36 0 (by decide) (by decide) fr.rf)) (fun k hk => ⟨?_, ?_⟩)
  · show (if (36 : Nat) = 37 ∧ 0 ≤ k ∧ k < 40 then (0 : Int) else if (36 : Nat) = 36 ∧ 0 ≤ k ∧ k < 40 then 0 else h.1 36 k) = 0
    rw [if_neg (by omega), if_pos ⟨rfl, by omega, hk⟩]
  · show (if (37 : Nat) = 37 ∧ 0 ≤ k ∧ k < 40 then (0 : Int) else _) = 0
    rw [if_pos ⟨rfl, by omega, hk⟩]
/-- what was found for a step -/
def FD (t : TV) (r : Int) (s : Nat) (h : Hp) : Prop :=
  (hld t r s = 1 ∨ hld t r s = 3 → h.2.1 30 6 = -4 ∧ h.2.1 30 8 = -4) ∧ (hld t r s = 1 → h.2.1 30 7 = rkn (nm t s) (nm t (xN t s)) (nm t (yN t s))) ∧ (hld t r s = 3 → h.2.1 30 7 = 0) ∧
  (hld t r s = 2 → h.2.1 30 6 = (if nm t (xN t s) = 0 then 2 else 1) ∧ h.2.1 30 8 = -4) ∧ (hld t r s = 4 → h.2.1 30 6 = 1 ∧ h.2.1 30 8 = -4) ∧ (hld t r s = 5 → h.2.1 30 6 = 0 ∧ h.2.1 30 8 = -4) ∧
  (hld t r s = 6 → h.2.1 30 6 = 1 ∧ h.2.1 30 8 = nm t (xN t s) ∧ h.2.1 30 7 = nm t (xN t (xN t s)) ∧ h.2.1 31 4 = ((plist t (yN t s)).length : Int) ∧ DA h 32 33 (plist t (yN t s)))
theorem FD.mk' {r : Int} {s : Nat} {h : Hp} {n : Int} (e : hld t r s = n) (h13 : n = 1 ∨ n = 3 → h.2.1 30 6 = -4 ∧ h.2.1 30 8 = -4) (h1 : n = 1 → h.2.1 30 7 = rkn (nm t s) (nm t (xN t s)) (nm t (yN t s))) (h3 : n = 3 → h.2.1 30 7 = 0) (h2 : n = 2 → h.2.1 30 6 = (if nm t (xN t s) = 0 then 2 else 1) ∧ h.2.1 30 8 = -4) (h4 : n = 4 → h.2.1 30 6 = 1 ∧ h.2.1 30 8 = -4) (h5 : n = 5 → h.2.1 30 6 = 0 ∧ h.2.1 30 8 = -4) (h6 : n = 6 → h.2.1 30 6 = 1 ∧ h.2.1 30 8 = nm t (xN t s) ∧ h.2.1 30 7 = nm t (xN t (xN t s)) ∧ h.2.1 31 4 = ((plist t (yN t s)).length : Int) ∧ DA h 32 33 (plist t (yN t s))) : FD t r s h := by
  unfold FD
  rw [e]
  exact ⟨h13, h1, h3, h2, h4, h5, h6⟩
theorem c_isNameStep (R : RC t h) {q : Nat} (hq : q < mk t) (k : Int) (p : P (b2 (kd t q = 1 ∧ nm t q = k)) h) : Cl shC mX7_isNameStep [pR 30, pI (q : Int), pI k] h P := by
  refine sX7_isNameStep_0 (c_kindOf R _ ?_)
  rw [kdI_at hq]
  refine ⟨fun c => ?_, fun c => c_numberOf R _ ?_⟩
  · rwa [b2, if_neg (fun y => c y.1)] at p
  · rw [nmI_at hq]
    refine ⟨fun c2 => ?_, fun c2 => ?_⟩
    · rwa [b2, if_neg (fun y => c2 y.2)] at p
    · rwa [b2, if_pos ⟨c, c2⟩] at p
theorem c_isLeft (w : WF t) (R : RC t h) {b : Nat} (hb : b < mk t) (hk : kd t b = 11) (p : ∀ h', fr 31 35 h h' → P (if lvB t b = true then 1 else 0) h') : Cl shC mX7_isLeft [pR 30, pI (b : Int)] h P := by
  have hm := R.m
  have hkb : kd t b ≠ -1 := by rw [hk]; decide
  have hal : al t (b : Int) := al_n.mpr ⟨hb, hkb⟩
  have epl : plist t (b : Int) = pre t 40 1 b := plist_al hal
  have hlen := plist_len (t := t) (z := (b : Int)) w.trr
  have htl : plist t (b : Int) = (b, 1) :: (ch t b).flatMap (pre t 39 2) := epl
  have hsc := scn_B w hb hkb
  refine sX7_isLeft_0 (c_over isW31 R _ w.trr (fun h1 x1 hs1 hD1 => ?_))
  have R1 := R.wk isW31 x1
  have key : ∀ (D2 D1 : List (Nat × Nat)) (K : Nat), D1 ++ D2 = plist t (b : Int) → K ≤ 40 → scn t K D2 = lvB t b → Ok shC 0 0 mX7_isLeft 20 [some (pR 30), none, some (pI (K : Int)), some (pI (D1.length : Int)), none] [] h1 P := by
    intro D2
    induction D2 with
    | nil =>
      intro D1 K he hK hsK
      rw [List.append_nil] at he
      have hsK : false = lvB t b := hsK
      refine sX7_isLeft_20 ⟨fun _ => ?_, fun c => absurd (by rw [hs1, ← he]; exact Int.le_refl _) c⟩
      have := p h1 (x1.wd (by decide) (by decide))
      rwa [if_neg (by rw [← hsK]; decide)] at this
    | cons q D2 ih =>
      intro D1 K he hK hsK
      have hl : D1.length < (plist t (b : Int)).length := by rw [← he]; simp
      have hq : (plist t (b : Int))[D1.length]? = some q := by rw [← he]; simp
      have hqm := plist_at w (List.mem_of_getElem? hq)
      have hqd := plist_d w (List.mem_of_getElem? hq)
      have hlen2 : ((D1 ++ [q]).length : Int) = (D1.length : Int) + 1 := by simp
      have nx := fun K' hK' hs' => ih (D1 ++ [q]) K' (by rw [← he]; simp) hK' hs'
      rw [hlen2] at nx
      have hsK : (if K < q.2 then scn t K D2 else if kd t q.1 = 7 then true else scn t (if kd t q.1 = 11 then q.2 else 40) D2) = lvB t b := hsK
      refine sX7_isLeft_20 ⟨fun c => absurd c (by rw [hs1]; omega), fun _ => ⟨D1.length, rfl, by omega, ?_⟩⟩
      rw [(hD1 _ _ hq).1]
      refine c_kindOf R1 _ ?_
      rw [kdI_at hqm.1, (hD1 _ _ hq).2]
      refine ⟨fun c => ⟨by unfold inR; omega, nx K hK ?_⟩, fun c => ⟨fun c11 => ⟨fun c7 => ⟨by unfold inR; omega, ?_⟩, fun c7 => ?_⟩, fun c11 => ⟨fun c7 => ⟨by unfold inR; omega, ?_⟩, fun c7 => absurd c7 (by omega)⟩⟩⟩
      · rw [if_pos (by omega)] at hsK
        exact hsK
      · rw [if_neg (by omega), if_neg c7, if_neg c11] at hsK
        exact nx 40 (Nat.le_refl _) hsK
      · rw [if_neg (by omega), if_pos c7] at hsK
        have := p h1 (x1.wd (by decide) (by decide))
        rwa [if_pos hsK.symm] at this
      · rw [if_neg (by omega), if_neg c7, if_pos c11] at hsK
        exact nx q.2 (by omega) hsK
  have := key ((ch t b).flatMap (pre t 39 2)) [(b, 1)] 40 (by rw [htl]; rfl) (Nat.le_refl _) hsc
  exact this
theorem c_canFix (w : WF t) (R : RC t h) {r : Int} (ta : TA t (plist t (bdI t r)) h) {s : Nat} (hs : s < mk t) (hk : kd t s = 5) (hx4 : kd t (xN t s) = 4)
    (p1 : fast t r s → ∀ h', fr 30 35 h h' → (∀ k, k ≠ 7 → k ≠ 8 → h'.2.1 30 k = h.2.1 30 k) → h'.2.1 30 8 = nm t (xN t s) → h'.2.1 30 7 = nm t (xN t (xN t s)) → h'.2.1 31 4 = ((plist t (yN t s)).length : Int) → DA h' 32 33 (plist t (yN t s)) → P 1 h')
    (p0 : ¬ fast t r s → ∀ h', fr 30 35 h h' → (∀ k, k ≠ 7 → k ≠ 8 → h'.2.1 30 k = h.2.1 30 k) → P 0 h') : Cl shC mX7_canFix [pR 30, pI (s : Int), pI (prI t r)] h P := by
  have hm := R.m
  have hks : kd t s ≠ -1 := by rw [hk]; decide
  obtain ⟨x1, x2, x3, x4⟩ := prt w hs hks (j := 0) (by rw [ar_2 (Or.inr (Or.inl hk))]; decide) (by decide)
  obtain ⟨y1, y2, y3, y4⟩ := prt w hs hks (j := 1) (by rw [ar_2 (Or.inr (Or.inl hk))]; decide) (by decide)
  have hkx : kd t (xN t s) ≠ -1 := by rw [hx4]; decide
  obtain ⟨z1, z2, z3, z4⟩ := prt w x3 hkx (j := 0) (by rw [ar_1 (Or.inl hx4)]; decide) (by decide)
  have x3 : xN t s < mk t := x3
  have y3 : yN t s < mk t := y3
  have z3 : xN t (xN t s) < mk t := z3
  have hn : 0 ≤ nm t (xN t s) ∧ nm t (xN t s) < 40 := (w.nmr x3 hkx).1 (Or.inr hx4)
  have hlen := plist_len (t := t) (z := ((yN t s : Nat) : Int)) w.trr
  have e0 : ptI t (s : Int) 0 = (xN t s : Int) := (ptI_at (k := 0) hs (by decide)).trans x1
  have e1 : ptI t (s : Int) 1 = (yN t s : Int) := (ptI_at (k := 1) hs (by decide)).trans y1
  have e2 : ptI t ((xN t s : Nat) : Int) 0 = (xN t (xN t s) : Int) := (ptI_at (k := 0) x3 (by decide)).trans z1
  refine sX7_canFix_0 (c_partOf R _ _ ?_)
  rw [e0]
  refine c_numberOf R _ (c_partOf R _ _ ?_)
  rw [e2, nmI_at x3]
  refine c_kindOf R _ ?_
  rw [kdI_at z3]
  refine ⟨fun c => p0 (fun f => c f.2.1) h fr.rf (fun _ _ _ => rfl), fun c => ⟨fun c2 => p0 (fun f => absurd f.2.2.1 (by omega)) h fr.rf (fun _ _ _ => rfl), fun c2 => c_isName ⟨fun c3 => absurd (show 0 ≤ nm t (xN t s) ∧ nm t (xN t s) ≤ 39 by omega) (b2_0.mp c3), fun _ => ?_⟩⟩⟩
  obtain ⟨k, hkk⟩ := Int.eq_ofNat_of_zero_le hn.1
  have hta := ta k (by omega)
  refine ⟨k, hkk, by omega, ?_⟩
  rw [hta.1]
  refine ⟨fun c3 => ?_, fun c3 => p0 (fun f => c3 (by have := f.2.2.2.1; rw [hkk] at this; omega)) h fr.rf (fun _ _ _ => rfl)⟩
  refine c_partOf R _ _ ?_
  rw [e1]
  refine c_over isW31 R _ w.trr (fun h1 f1 hs1 hD1 => ?_)
  have R1 := R.wk isW31 f1
  have key : ∀ (D2 D1 : List (Nat × Nat)), D1 ++ D2 = plist t ((yN t s : Nat) : Int) → Ok shC 0 0 mX7_canFix 99 [some (pR 30), none, none, none, some (pI (nm t (xN t s))), some (pI ((xN t (xN t s) : Nat) : Int)), some (pI (hmy t D1 1 (nm t (xN t s)) : Int)), some (pI (D1.length : Int))] [] h1 P := by
    intro D2
    induction D2 with
    | nil =>
      intro D1 he
      rw [List.append_nil] at he
      have xf : fr 30 35 h (hI (hI h1 30 8 (nm t (xN t s))) 30 7 (nm t (xN t (xN t s)))) := ((f1.wd (by decide) (by decide)).I ⟨by decide, by decide⟩).I ⟨by decide, by decide⟩
      have fo : ∀ k, k ≠ 7 → k ≠ 8 → (hI (hI h1 30 8 (nm t (xN t s))) 30 7 (nm t (xN t (xN t s)))).2.1 30 k = h.2.1 30 k := fun k h7 h8 => by
        rw [hI_at, if_neg (by omega), hI_at, if_neg (by omega), f1.i (by decide)]
      refine sX7_canFix_99 ⟨fun _ => ?_, fun z => absurd (by rw [hs1, ← he]; exact Int.le_refl _) z⟩
      refine c_numberOf (R1.kp (fr.rf.I (lo := 30) (hi := 30) ⟨by decide, by decide⟩) (Or.inl (by decide))) _ ?_
      rw [nmI_at z3]
      refine ⟨k, hkk, by omega, ?_⟩
      have e37 : (hI h1 30 8 (nm t (xN t s))).1 37 k = (hmy t (plist t (bdI t r)) 1 k : Int) := by
        rw [hI_a, f1.a (by decide)]
        exact hta.2
      rw [e37]
      refine ⟨fun z => p0 (fun f => z ?_) _ xf fo, fun z => p1 ⟨hx4, c, by omega, ?_, ?_⟩ _ xf fo ?_ ?_ ?_ ?_⟩
      · have := f.2.2.2.2
        rw [he, this, hkk]
      · rw [hkk]
        omega
      · rw [← he, hkk] at *
        omega
      · rw [hI_at, if_neg (by omega), hI_at, if_pos ⟨rfl, rfl⟩]
      · rw [hI_at, if_pos ⟨rfl, rfl⟩]
      · rw [hI_at, if_neg (by omega), hI_at, if_neg (by omega)]
        exact hs1
      · exact hD1
    | cons q D2 ih =>
      intro D1 he
      have hl : D1.length < (plist t ((yN t s : Nat) : Int)).length := by rw [← he]; simp
      have hq : (plist t ((yN t s : Nat) : Int))[D1.length]? = some q := by rw [← he]; simp
      have hqm := plist_at w (List.mem_of_getElem? hq)
      have hle := hmy_le (t := t) 1 (nm t (xN t s)) D1
      have nx := ih (D1 ++ [q]) (by rw [← he]; simp)
      rw [hmy_snoc, List.length_append] at nx
      refine sX7_canFix_99 ⟨fun z => absurd z (by rw [hs1]; omega), fun _ => ⟨D1.length, rfl, by omega, ?_⟩⟩
      rw [(hD1 _ _ hq).1]
      refine c_isNameStep R1 hqm.1 _ ⟨fun z => ⟨by unfold inR; omega, by unfold inR; omega, ?_⟩, fun z => ⟨by unfold inR; omega, by unfold inR; omega, ?_⟩⟩
      · rw [if_neg (b2_0.mp z)] at nx
        rw [Int.add_zero]
        exact nx
      · rw [if_pos (b2_n0.mp z)] at nx
        exact nx
  exact key (plist t ((yN t s : Nat) : Int)) [] rfl
theorem c_canChange (w : WF t) (R : RC t h) {r : Int} (ta : TA t (plist t (bdI t r)) h) {s : Nat} (hs : s < mk t) (hks : kd t s ≠ -1) (p0 : hld t r s = 0 → ∀ h', fr 30 35 h h' → h'.2.1 30 5 = h.2.1 30 5 → P 0 h') (p1 : hld t r s ≠ 0 → ∀ h', fr 30 35 h h' → h'.2.1 30 5 = h.2.1 30 5 → FD t r s h' → P 1 h') : Cl shC mX7_canChange [pR 30, pI (s : Int), pI (prI t r)] h P := by
  have hm := R.m
  have hb := w.2.2.2.2.1 s hs
  have xi : fr 30 35 h (hI (hI (hI h 30 6 (-4)) 30 7 0) 30 8 (-4)) := ((fr.rf.I ⟨by decide, by decide⟩).I ⟨by decide, by decide⟩).I ⟨by decide, by decide⟩
  have Ri : RC t (hI (hI (hI h 30 6 (-4)) 30 7 0) 30 8 (-4)) := R.kp xi (Or.inl (by decide))
  have f5 : (hI (hI (hI h 30 6 (-4)) 30 7 0) 30 8 (-4)).2.1 30 5 = h.2.1 30 5 := by rw [hI_at, if_neg (by omega), hI_at, if_neg (by omega), hI_at, if_neg (by omega)]
  have f6 : (hI (hI (hI h 30 6 (-4)) 30 7 0) 30 8 (-4)).2.1 30 6 = -4 := by rw [hI_at, if_neg (by omega), hI_at, if_neg (by omega), hI_at, if_pos ⟨rfl, rfl⟩]
  have f7 : (hI (hI (hI h 30 6 (-4)) 30 7 0) 30 8 (-4)).2.1 30 7 = 0 := by rw [hI_at, if_neg (by omega), hI_at, if_pos ⟨rfl, rfl⟩]
  have f8 : (hI (hI (hI h 30 6 (-4)) 30 7 0) 30 8 (-4)).2.1 30 8 = -4 := by rw [hI_at, if_pos ⟨rfl, rfl⟩]
  have tai : TA t (plist t (bdI t r)) (hI (hI (hI h 30 6 (-4)) 30 7 0) 30 8 (-4)) := ta
  refine sX7_canChange_0 ?_
  generalize hI (hI (hI h 30 6 (-4)) 30 7 0) 30 8 (-4) = hi at *
  have RI : ∀ k z, RC t (hI hi 30 k z) := fun k z => Ri.kp (fr.rf.I (lo := 30) (hi := 30) ⟨by decide, by decide⟩) (Or.inl (by decide))
  have p0i : hld t r s = 0 → ∀ h', fr 30 35 hi h' → h'.2.1 30 5 = hi.2.1 30 5 → P 0 h' := fun e h' x z => p0 e h' (xi.tr x) (z.trans f5)
  have p1i : hld t r s ≠ 0 → ∀ h', fr 30 35 hi h' → h'.2.1 30 5 = hi.2.1 30 5 → FD t r s h' → P 1 h' := fun e h' x z => p1 e h' (xi.tr x) (z.trans f5)
  refine c_kindOf Ri _ ?_
  rw [kdI_at hs]
  refine ⟨fun c => ?_, fun c => ?_, fun c => ?_, fun c => ?_, fun c => ?_, fun c => ?_⟩
  · obtain ⟨x1, x2, x3, x4⟩ := prt w hs hks (j := 0) (by rw [ar_2 (Or.inl c)]; decide) (by decide)
    obtain ⟨y1, y2, y3, y4⟩ := prt w hs hks (j := 1) (by rw [ar_2 (Or.inl c)]; decide) (by decide)
    have x3 : xN t s < mk t := x3
    have e0 : ptI t (s : Int) 0 = (xN t s : Int) := (ptI_at (k := 0) hs (by decide)).trans x1
    have y3 : yN t s < mk t := y3
    have e1 : ptI t (s : Int) 1 = (yN t s : Int) := (ptI_at (k := 1) hs (by decide)).trans y1
    have eh : hld t r s = if kd t (xN t s) = 0 ∧ kd t (yN t s) = 0 ∧ (nm t s ≠ 3 ∨ nm t (yN t s) ≠ 0) then 1 else 0 := by
      unfold hld
      rw [if_pos c]
    refine sX7_canReckon_0 (c_partOf Ri _ _ ?_)
    rw [e0]
    refine c_partOf Ri _ _ ?_
    rw [e1]
    refine c_kindOf Ri _ ?_
    rw [kdI_at x3]
    refine ⟨fun c1 => ⟨Or.inl rfl, p0i (by rw [eh, if_neg (fun y => c1 y.1)]) _ fr.rf rfl⟩, fun c1 => c_kindOf Ri _ ?_⟩
    rw [kdI_at y3]
    refine ⟨fun c2 => c_numberOf Ri _ (c_numberOf Ri _ (c_numberOf Ri _ (c_reckon _ _ _ (c_numberOf (RI _ _) _ ?_)))), fun c2 => ⟨Or.inl rfl, p0i (by rw [eh, if_neg (fun y => c2 y.2.1)]) _ fr.rf rfl⟩⟩
    rw [nmI_at hs, nmI_at x3, nmI_at y3]
    have xf : fr 30 35 hi (hI hi 30 7 (rkn (nm t s) (nm t (xN t s)) (nm t (yN t s)))) := fr.rf.I ⟨by decide, by decide⟩
    have g5 : (hI hi 30 7 (rkn (nm t s) (nm t (xN t s)) (nm t (yN t s)))).2.1 30 5 = hi.2.1 30 5 := by rw [hI_at, if_neg (by omega)]
    have fd : (nm t s ≠ 3 ∨ nm t (yN t s) ≠ 0) → FD t r s (hI hi 30 7 (rkn (nm t s) (nm t (xN t s)) (nm t (yN t s)))) ∧ hld t r s ≠ 0 := fun q => by
      have e : hld t r s = 1 := by rw [eh, if_pos ⟨c1, c2, q⟩]
      refine ⟨FD.mk' e (fun _ => ⟨?_, ?_⟩) (fun _ => ?_) (by omega) (by omega) (by omega) (by omega) (by omega), by omega⟩
      · rw [hI_at, if_neg (by omega)]; exact f6
      · rw [hI_at, if_neg (by omega)]; exact f8
      · rw [hI_at, if_pos ⟨rfl, rfl⟩]
    refine ⟨fun c3 => ⟨Or.inr rfl, p1i (fd (Or.inl c3)).2 _ xf g5 (fd (Or.inl c3)).1⟩, fun c3 => c_numberOf (RI _ _) _ ?_⟩
    rw [nmI_at y3]
    refine ⟨fun c4 => ⟨Or.inl rfl, p0i (by rw [eh, if_neg (fun y => y.2.2.elim (fun z => z c3) (fun z => z c4))]) _ xf g5⟩, fun c4 => ⟨Or.inr rfl, p1i (fd (Or.inr c4)).2 _ xf g5 (fd (Or.inr c4)).1⟩⟩
  · obtain ⟨x1, x2, x3, x4⟩ := prt w hs hks (j := 0) (by rw [ar_3' c]; decide) (by decide)
    have x3 : xN t s < mk t := x3
    have e0 : ptI t (s : Int) 0 = (xN t s : Int) := (ptI_at (k := 0) hs (by decide)).trans x1
    have eh : hld t r s = if kd t (xN t s) = 0 then 2 else 0 := by
      unfold hld
      rw [if_neg (by omega), if_pos c]
    have fin : ∀ v : Int, v = (if nm t (xN t s) = 0 then 2 else 1) → Cl shC mX1_partOf [pR 1, pI (s : Int), pI 0] (hI hi 30 6 v) (fun r5 h5 => Cl shC mX1_kindOf [pR 1, pI r5] h5 (fun r6 h6 => ((¬ r6 = 0) → P 0 h6) ∧ ((r6 = 0) → P 1 h6))) := fun v hv => by
      have xf : fr 30 35 hi (hI hi 30 6 v) := fr.rf.I ⟨by decide, by decide⟩
      have g5 : (hI hi 30 6 v).2.1 30 5 = hi.2.1 30 5 := by rw [hI_at, if_neg (by omega)]
      refine c_partOf (RI _ _) _ _ ?_
      rw [e0]
      refine c_kindOf (RI _ _) _ ?_
      rw [kdI_at x3]
      refine ⟨fun c1 => p0i (by rw [eh, if_neg c1]) _ xf g5, fun c1 => ?_⟩
      have e : hld t r s = 2 := by rw [eh, if_pos c1]
      refine p1i (by omega) _ xf g5 (FD.mk' e (by omega) (by omega) (by omega) (fun _ => ⟨?_, ?_⟩) (by omega) (by omega) (by omega))
      · rw [hI_at, if_pos ⟨rfl, rfl⟩]; exact hv
      · rw [hI_at, if_neg (by omega)]; exact f8
    refine c_partOf Ri _ _ ?_
    rw [e0]
    refine c_numberOf Ri _ ?_
    rw [nmI_at x3]
    exact ⟨fun c1 => fin 2 (by rw [if_pos c1]), fun c1 => fin 1 (by rw [if_neg c1])⟩
  · obtain ⟨x1, x2, x3, x4⟩ := prt w hs hks (j := 0) (by rw [ar_2 (Or.inr (Or.inl c))]; decide) (by decide)
    have x3 : xN t s < mk t := x3
    have e0 : ptI t (s : Int) 0 = (xN t s : Int) := (ptI_at (k := 0) hs (by decide)).trans x1
    have eh : hld t r s = if kd t (xN t s) = 0 ∨ kd t (xN t s) = 1 then 4 else if fast t r s then 6 else 0 := by
      unfold hld
      rw [if_neg (by omega), if_neg (by omega), if_neg (by omega), if_pos c]
    have xf : fr 30 35 hi (hI hi 30 6 1) := fr.rf.I ⟨by decide, by decide⟩
    have g5 : (hI hi 30 6 1).2.1 30 5 = hi.2.1 30 5 := by rw [hI_at, if_neg (by omega)]
    have g6 : (hI hi 30 6 1).2.1 30 6 = 1 := by rw [hI_at, if_pos ⟨rfl, rfl⟩]
    have g8 : (hI hi 30 6 1).2.1 30 8 = -4 := by rw [hI_at, if_neg (by omega)]; exact f8
    have e4 : kd t (xN t s) = 0 ∨ kd t (xN t s) = 1 → P 1 (hI hi 30 6 1) := fun q => by
      have e : hld t r s = 4 := by rw [eh, if_pos q]
      exact p1i (by omega) _ xf g5 (FD.mk' e (by omega) (by omega) (by omega) (by omega) (fun _ => ⟨g6, g8⟩) (by omega) (by omega))
    refine c_partOf (RI _ _) _ _ ?_
    rw [e0]
    refine c_kindOf (RI _ _) _ ?_
    rw [kdI_at x3]
    refine ⟨fun c1 => e4 (Or.inl c1), fun c1 => ⟨fun c2 => e4 (Or.inr c2), fun c2 => ⟨fun c3 => p0i ?_ _ xf g5, fun c3 => ?_⟩⟩⟩
    · rw [eh, if_neg (fun q => q.elim c1 c2), if_neg (fun q => c3 q.1)]
    · refine c_canFix w (RI _ _) (r := r) tai hs c c3 (fun f h' x' fo q8 q7 q4 qD => ⟨fun z => absurd z (by decide), fun _ => ?_⟩) (fun f h' x' fo => ⟨fun _ => p0i ?_ _ (xf.tr x') ?_, fun z => absurd rfl z⟩)
      · have e : hld t r s = 6 := by rw [eh, if_neg (fun q => q.elim c1 c2), if_pos f]
        exact p1i (by omega) _ (xf.tr x') ((fo 5 (by decide) (by decide)).trans g5) (FD.mk' e (by omega) (by omega) (by omega) (by omega) (by omega) (by omega) (fun _ => ⟨(fo 6 (by decide) (by decide)).trans g6, q8, q7, q4, qD⟩))
      · rw [eh, if_neg (fun q => q.elim c1 c2), if_neg f]
      · exact (fo 5 (by decide) (by decide)).trans g5
  · obtain ⟨x1, x2, x3, x4⟩ := prt w hs hks (j := 0) (by rw [ar_2 (Or.inr (Or.inr (Or.inl c)))]; decide) (by decide)
    have x3 : xN t s < mk t := x3
    have e0 : ptI t (s : Int) 0 = (xN t s : Int) := (ptI_at (k := 0) hs (by decide)).trans x1
    have eh : hld t r s = if kd t (xN t s) = 0 ∧ nm t (xN t s) = 0 then 3 else 0 := by
      unfold hld
      rw [if_neg (by omega), if_neg (by omega), if_pos c]
    refine c_partOf Ri _ _ ?_
    rw [e0]
    refine c_kindOf Ri _ ?_
    rw [kdI_at x3]
    refine ⟨fun c1 => p0i (by rw [eh, if_neg (fun q => c1 q.1)]) _ fr.rf rfl, fun c1 => c_numberOf Ri _ ?_⟩
    rw [nmI_at x3]
    refine ⟨fun c2 => p0i (by rw [eh, if_neg (fun q => c2 q.2)]) _ fr.rf rfl, fun c2 => ?_⟩
    have e : hld t r s = 3 := by rw [eh, if_pos ⟨c1, c2⟩]
    exact p1i (by omega) _ fr.rf rfl (FD.mk' e (fun _ => ⟨f6, f8⟩) (by omega) (fun _ => f7) (by omega) (by omega) (by omega) (by omega))
  · have eh : hld t r s = if lvB t s = true then 0 else 5 := by
      unfold hld
      rw [if_neg (by omega), if_neg (by omega), if_neg (by omega), if_neg (by omega), if_pos c]
    have xf : fr 30 35 hi (hI hi 30 6 0) := fr.rf.I ⟨by decide, by decide⟩
    refine c_isLeft w (RI _ _) hs c (fun h' x' => ⟨fun z => p0i ?_ _ (xf.tr (x'.wd (by decide) (by decide))) ?_, fun z => ?_⟩)
    · have : lvB t s = true := Classical.byContradiction fun q => by
        rw [if_neg q] at z
        exact z rfl
      rw [eh, if_pos this]
    · rw [x'.i (by decide), hI_at, if_neg (by omega)]
    · have hl : lvB t s ≠ true := fun q => by
        rw [if_pos q] at z
        exact absurd z (by decide)
      have e : hld t r s = 5 := by rw [eh, if_neg hl]
      refine p1i (by omega) _ (xf.tr (x'.wd (by decide) (by decide))) ?_ (FD.mk' e (by omega) (by omega) (by omega) (by omega) (by omega) (fun _ => ⟨?_, ?_⟩) (by omega))
      · rw [x'.i (by decide), hI_at, if_neg (by omega)]
      · rw [x'.i (by decide), hI_at, if_pos ⟨rfl, rfl⟩]
      · rw [x'.i (by decide), hI_at, if_neg (by omega)]; exact f8
  · refine p0i ?_ _ fr.rf rfl
    unfold hld
    rw [if_neg (by omega), if_neg (by omega), if_neg (by omega), if_neg (by omega), if_neg (by omega)]
end HC
