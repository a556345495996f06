/-! THE CLASS: what is held is kept -/
section CK
variable {t : TV}
/-- what keeping changes: kept rows, and Past's numbers -/
def hk (h h' : Hp) : Prop := ∀ a, a < 46 → a ≠ 38 → h'.1 a = h.1 a ∧ h'.2.1 a = h.2.1 a
theorem hk.rc {h h' : Hp} (x : hk h h') (R : RC t h) : RC t h' := by
  obtain ⟨r1, r2, r3, r4, r5, r6, r7⟩ := R
  have e2 := (x 2 (by decide) (by decide)).2
  have e : ∀ i, i < 6 → h'.1 (ρC i) = h.1 (ρC i) := fun i hi => (x (3 + i) (by omega) (by omega)).1
  refine ⟨by rw [e2]; exact r1, by rw [e2]; exact r2, r3, r4, fun s hs => ?_, fun j hj => ?_, fun r hr => ?_⟩
  · rw [e 0 (by decide), e 1 (by decide), e 3 (by decide)]; exact r5 s hs
  · rw [e 2 (by decide)]; exact r6 j hj
  · rw [e 4 (by decide), e 5 (by decide)]; exact r7 r hr
theorem hk.cx {st : St} {h h' : Hp} (x : hk h h') (c : CX st h) : CX st h' :=
  c.kp (x 19 (by decide) (by decide)).2 (x 20 (by decide) (by decide)).1 (x 21 (by decide) (by decide)).1 (x 40 (by decide) (by decide)).2 (x 44 (by decide) (by decide)).1
theorem c_holdK {us : List TV} {h : Hp} {Q : Hp → Prop} (R : RC t h) (C : CP us h) (p : ∀ h', hk h h' → CP (pushU us t) h' → Q h') : Cl1 shC mX4_hold [pR 38, pR 2] h (fun _ h1 => Cl shC mX4_keepHeld [pR 38] h1 (fun _ h2 => Q h2)) := by
  obtain ⟨f, x1, x2, x3, x4, x5, x6, x7, x8⟩ := C
  have hm := R.m
  have hcond : (f + us.length) % 13 ≤ h.2.2 := by
    by_cases e : f = 0
    · have := x5 e
      rw [e, Nat.zero_add, Nat.mod_eq_of_lt (by omega)]
      exact this
    · have := x6 e
      have := Nat.mod_lt (f + us.length) (show 0 < 13 by decide)
      omega
  have k13 := Nat.mod_lt (f + us.length) (show 0 < 13 by decide)
  have hh : ∃ h0 : Hp, (if (f + us.length) % 13 < h.2.2 then h else fresh h) = h0 ∧ (∀ a, a < 46 → h0.1 a = h.1 a ∧ h0.2.1 a = h.2.1 a) ∧ (f + us.length) % 13 < h0.2.2 ∧ h.2.2 ≤ h0.2.2 ∧ h0.2.2 ≤ 13 ∧ ∀ i u, us[i]? = some u → slot (46 + 7 * ((f + i) % 13)) u h0 := by
    by_cases c : (f + us.length) % 13 < h.2.2
    · exact ⟨h, if_pos c, fun _ _ => ⟨rfl, rfl⟩, c, Nat.le_refl _, x7, x8⟩
    · have hf0 : f = 0 := Classical.byContradiction fun q => by
        have := x6 q
        omega
      refine ⟨fresh h, if_neg c, fun a ha => ⟨?_, ?_⟩, ?_, ?_, ?_, fun i u hu => ?_⟩
      · funext j
        show (if 46 + 7 * h.2.2 ≤ a then 0 else h.1 a j) = h.1 a j
        rw [if_neg (by omega)]
      · funext j
        show (if 46 + 7 * h.2.2 ≤ a then 0 else h.2.1 a j) = h.2.1 a j
        rw [if_neg (by omega)]
      · show _ < h.2.2 + 1
        omega
      · show h.2.2 ≤ h.2.2 + 1
        omega
      · show h.2.2 + 1 ≤ 13
        omega
      · have hi := (List.getElem?_eq_some_iff.mp hu).1
        have h5 := x5 hf0
        have hki : (f + i) % 13 = i := by rw [hf0, Nat.zero_add, Nat.mod_eq_of_lt (by omega)]
        refine (x8 i u hu).kp ?_ (fun j hj => ?_)
        · funext j
          show (if 46 + 7 * h.2.2 ≤ 46 + 7 * ((f + i) % 13) then 0 else _) = _
          rw [if_neg (by omega)]
        · funext q
          show (if 46 + 7 * h.2.2 ≤ 46 + 7 * ((f + i) % 13) + 1 + j then 0 else _) = _
          rw [if_neg (by omega)]
  obtain ⟨h0, e0, y1, y2, y3, y4, y5⟩ := hh
  refine c_hold (f := f) (z := us.length) (m := mk t) (r := rt t) x1 x3 (by omega) hcond R.1 R.2.1 hm.1 hm.2 ?_
  rw [e0]
  have R0 : RC t h0 := hk.rc (h := h) (fun a ha _ => y1 a ha) R
  have s1 := slot_cp (o := 46 + 7 * ((f + us.length) % 13)) R0 (by omega)
  have fr1 := cpR_fr (h := h0) (o := 46 + 7 * ((f + us.length) % 13)) (s := 2) (m := mk t) (r := rt t)
  have ot : ∀ i u, us[i]? = some u → (f + i) % 13 ≠ (f + us.length) % 13 → slot (46 + 7 * ((f + i) % 13)) u (cpR h0 (46 + 7 * ((f + us.length) % 13)) 2 (mk t) (rt t)) := fun i u hu hne =>
    (y5 i u hu).kp (fr1.i (by omega)) (fun j hj => fr1.a (by omega))
  have e38 : (cpR h0 (46 + 7 * ((f + us.length) % 13)) 2 (mk t) (rt t)).2.1 38 = h.2.1 38 := (fr1.i (by omega)).trans (y1 38 (by decide)).2
  have ec : (cpR h0 (46 + 7 * ((f + us.length) % 13)) 2 (mk t) (rt t)).2.2 = h0.2.2 := fr1.2
  have elo : ∀ a, a < 46 → (cpR h0 (46 + 7 * ((f + us.length) % 13)) 2 (mk t) (rt t)).1 a = h.1 a ∧ (cpR h0 (46 + 7 * ((f + us.length) % 13)) 2 (mk t) (rt t)).2.1 a = h.2.1 a := fun a ha => ⟨(fr1.a (by omega)).trans (y1 a ha).1, (fr1.i (by omega)).trans (y1 a ha).2⟩
  generalize cpR h0 (46 + 7 * ((f + us.length) % 13)) 2 (mk t) (rt t) = h1 at *
  have hI1 : ∀ kk z, hk h (hI h1 38 kk z) := fun kk z a ha hne => ⟨(elo a ha).1, by
    funext j
    rw [hI_at, if_neg (by omega)]
    exact congrFun (elo a ha).2 j⟩
  refine sX4_keepHeld_0 ?_
  rw [e38, x1, x3]
  refine ⟨fun c => ⟨by unfold inR; omega, ?_⟩, fun c => ⟨by unfold inR; omega, ?_⟩⟩
  · have hl : us.length = 12 := by omega
    have eb : b_irem ((f : Int) + 1) 13 = (((f + 1) % 13 : Nat) : Int) := b_irem_n (a := f + 1) (b := 13) (by omega) (by decide) (by decide)
    rw [eb]
    refine p _ (hI1 _ _) ⟨(f + 1) % 13, ?_, Nat.mod_lt _ (by decide), ?_, ?_, ?_, ?_, ?_, fun i u hu => ?_⟩
    · rw [hI_at, if_pos ⟨rfl, rfl⟩]
    · rw [hI_at, if_neg (by omega), e38, x3]
      unfold pushU
      rw [if_pos hl, List.length_append, List.length_drop, hl]
      rfl
    · unfold pushU
      rw [if_pos hl, List.length_append, List.length_drop, hl]
      exact Nat.le_refl 12
    · intro _
      show _ ≤ h1.2.2
      rw [ec]
      unfold pushU
      rw [if_pos hl, List.length_append, List.length_drop, hl]
      show 12 ≤ h0.2.2
      by_cases e : f = 0
      · rw [e, hl] at y2; omega
      · have := x6 e; omega
    · intro _
      show h1.2.2 = 13
      rw [ec]
      by_cases e : f = 0
      · rw [e, hl] at y2; omega
      · have := x6 e; omega
    · show h1.2.2 ≤ 13
      rw [ec]; exact y4
    · unfold pushU at hu
      rw [if_pos hl] at hu
      have hd : (us.drop 1).length = 11 := by rw [List.length_drop, hl]
      have tr : ∀ o, 46 ≤ o → ∀ v, slot o v h1 → slot o v (hI h1 38 1 (((f + 1) % 13 : Nat) : Int)) := fun o ho v s => s.kp (by funext j; rw [hI_at, if_neg (by omega)]) (fun _ _ => rfl)
      by_cases hi : i < 11
      · rw [List.getElem?_append_left (by omega), List.getElem?_drop] at hu
        have e1 : ((f + 1) % 13 + i) % 13 = (f + (1 + i)) % 13 := by omega
        rw [e1]
        exact tr _ (by omega) u (ot (1 + i) u hu (by omega))
      · rw [List.getElem?_append_right (by omega)] at hu
        have h00 : i - (us.drop 1).length = 0 := by
          have := (List.getElem?_eq_some_iff.mp hu).1
          simp at this
          omega
        rw [h00] at hu
        have h11 : i = 11 := by omega
        cases hu
        have e1 : ((f + 1) % 13 + i) % 13 = (f + us.length) % 13 := by omega
        rw [e1]
        exact tr _ (by omega) t s1
  · have hp : pushU us t = us ++ [t] := by
      unfold pushU
      rw [if_neg (by omega)]
    rw [hp] at p
    refine p _ (hI1 _ _) ⟨f, ?_, x2, ?_, ?_, ?_, ?_, ?_, fun i u hu => ?_⟩
    · rw [hI_at, if_neg (by omega), e38]; exact x1
    · rw [hI_at, if_pos ⟨rfl, rfl⟩, List.length_append]
      rfl
    · rw [List.length_append]
      show us.length + 1 ≤ 12
      omega
    · intro e
      show _ ≤ h1.2.2
      rw [ec, List.length_append]
      show us.length + 1 ≤ h0.2.2
      rw [e, Nat.zero_add, Nat.mod_eq_of_lt (by omega)] at y2
      omega
    · intro e
      show h1.2.2 = 13
      have := x6 e
      rw [ec]; omega
    · show h1.2.2 ≤ 13
      rw [ec]; exact y4
    · have tr : ∀ o, 46 ≤ o → ∀ v, slot o v h1 → slot o v (hI h1 38 2 ((us.length : Int) + 1)) := fun o ho v s => s.kp (by funext j; rw [hI_at, if_neg (by omega)]) (fun _ _ => rfl)
      by_cases hi : i < us.length
      · rw [List.getElem?_append_left hi] at hu
        exact tr _ (by omega) u (ot i u hu (by omega))
      · rw [List.getElem?_append_right (by omega)] at hu
        have h00 : i - us.length = 0 := by
          have := (List.getElem?_eq_some_iff.mp hu).1
          simp at this
          omega
        rw [h00] at hu
        have h11 : i = us.length := by omega
        cases hu
        rw [h11]
        exact tr _ (by omega) t s1
end CK
