/-! RUN: the reference's machine -/
section MM
variable {t : TV} {has : Int} {P : Int → Hp → Prop}
def NR (t : TV) (has : Int) (σ : MS) (h : Hp) : Prop := RM t h ∧ h.2.1 0 23 = mL σ ∧ (∀ s, s < 600 → h.1 5 s = mC σ s) ∧ (∀ i, i < 8 → h.1 8 i = mR σ i) ∧ h.2.1 0 27 = mO σ ∧ h.2.1 0 24 = has - mL σ
def NC (t : TV) (has : Int) (l : Nat) (σ : MS) (h : Hp) : Prop := NR t has σ h ∧ (∀ k, k < 40 → h.1 18 (40 * (l - 1) + k) = mN σ k) ∧ h.2.1 0 22 = (l : Int) ∧ h.2.1 0 25 = 0 ∧ h.2.1 0 26 = 0 ∧ h.2.1 0 28 = -4 ∧ h.2.1 0 29 = 0
def nf (h h' : Hp) : Prop := (∀ a, ¬ (a = 5 ∨ a = 8 ∨ (9 ≤ a ∧ a ≤ 11) ∨ (14 ≤ a ∧ a ≤ 18)) → h'.1 a = h.1 a) ∧ (∀ o k, ¬ (o = 0 ∧ (k = 16 ∨ (22 ≤ k ∧ k ≤ 29))) → h'.2.1 o k = h.2.1 o k) ∧ h'.2.2 = h.2.2
theorem nf.rf {h : Hp} : nf h h := ⟨fun _ _ => rfl, fun _ _ _ => rfl, rfl⟩
theorem nf.tr {h h1 h2 : Hp} (x : nf h h1) (y : nf h1 h2) : nf h h2 := ⟨fun a ha => (y.1 a ha).trans (x.1 a ha), fun o k q => (y.2.1 o k q).trans (x.2.1 o k q), y.2.2.trans x.2.2⟩
theorem nf.A {h : Hp} {a i : Nat} {z : Int} (ha : a = 5 ∨ a = 8 ∨ (14 ≤ a ∧ a ≤ 18)) : nf h (hA h a i z) := ⟨fun b hb => by
  funext j
  rw [hA_at, if_neg (by omega)], fun _ _ _ => rfl, rfl⟩
theorem nf.I {h : Hp} {k : Nat} {z : Int} (hk : k = 16 ∨ (22 ≤ k ∧ k ≤ 29)) : nf h (hI h 0 k z) := ⟨fun _ _ => rfl, fun o j q => by rw [hI_at, if_neg (by omega)], rfl⟩
theorem nf.go {h h' : Hp} (x : fm 9 11 h h') : nf h h' := ⟨fun a ha => x.1 a (by omega), fun _ _ _ => by rw [x.2], by rw [x.2]⟩
theorem nf.rm {h h' : Hp} (x : nf h h') (R : RM t h) : RM t h' := by
  obtain ⟨r1, r2, r3, r4, r5, r6, r7⟩ := R
  have e : ∀ i, i < 6 → h'.1 (ρM i) = h.1 (ρM i) := fun i hi => x.1 _ (by rcases (by omega : i = 0 ∨ i = 1 ∨ i = 2 ∨ i = 3 ∨ i = 4 ∨ i = 5) with rfl | rfl | rfl | rfl | rfl | rfl <;> decide)
  refine ⟨(x.2.1 0 0 (by omega)).trans r1, (x.2.1 0 6 (by omega)).trans r2, r3, r4, fun s hs => ?_, fun j hj => ?_, fun q hq => ?_⟩
  · rw [e 0 (by decide), e 1 (by decide), e 3 (by decide)]; exact r5 s hs
  · rw [e 2 (by decide)]; exact r6 j hj
  · rw [e 4 (by decide), e 5 (by decide)]; exact r7 q hq
/-- frames below T, calls below l are as they were -/
def NK (T l : Nat) (h h' : Hp) : Prop := nf h h' ∧ (∀ i, i < T → h'.1 14 i = h.1 14 i ∧ h'.1 15 i = h.1 15 i ∧ h'.1 17 i = h.1 17 i ∧ ∀ j, j < 3 → h'.1 16 (3 * i + j) = h.1 16 (3 * i + j)) ∧ ∀ x, x < 40 * (l - 1) → h'.1 18 x = h.1 18 x
theorem NK.rf {T l : Nat} {h : Hp} : NK T l h h := ⟨nf.rf, fun _ _ => ⟨rfl, rfl, rfl, fun _ _ => rfl⟩, fun _ _ => rfl⟩
theorem NK.tr {T l T' l' : Nat} {h h1 h2 : Hp} (x : NK T l h h1) (y : NK T' l' h1 h2) (hT : T ≤ T') (hl : l ≤ l') : NK T l h h2 := by
  obtain ⟨x1, x2, x3⟩ := x
  obtain ⟨y1, y2, y3⟩ := y
  refine ⟨x1.tr y1, fun i hi => ?_, fun z hz => (y3 z (by omega)).trans (x3 z hz)⟩
  obtain ⟨a1, a2, a3, a4⟩ := x2 i hi
  obtain ⟨b1, b2, b3, b4⟩ := y2 i (by omega)
  exact ⟨b1.trans a1, b2.trans a2, b3.trans a3, fun j hj => (b4 j hj).trans (a4 j hj)⟩
theorem NK.lo {T l T' l' : Nat} {h h1 : Hp} (x : NK T' l' h h1) (hT : T ≤ T') (hl : l ≤ l') : NK T l h h1 := NK.rf.tr x hT hl
theorem NK.A {T l : Nat} {h h1 : Hp} (x : NK T l h h1) {a i : Nat} {z : Int} (ha : (a = 5 ∨ a = 8) ∨ ((a = 14 ∨ a = 15 ∨ a = 17) ∧ T ≤ i) ∨ (a = 16 ∧ 3 * T ≤ i) ∨ (a = 18 ∧ 40 * (l - 1) ≤ i)) : NK T l h (hA h1 a i z) := by
  refine x.tr (T' := T) (l' := l) ⟨nf.A (by omega), fun j hj => ⟨?_, ?_, ?_, fun k hk => ?_⟩, fun y hy => ?_⟩ (Nat.le_refl _) (Nat.le_refl _)
  · rw [hA_at, if_neg (by omega)]
  · rw [hA_at, if_neg (by omega)]
  · rw [hA_at, if_neg (by omega)]
  · rw [hA_at, if_neg (by omega)]
  · rw [hA_at, if_neg (by omega)]
theorem NK.I {T l : Nat} {h h1 : Hp} (x : NK T l h h1) {k : Nat} {z : Int} (hk : k = 16 ∨ (22 ≤ k ∧ k ≤ 29)) : NK T l h (hI h1 0 k z) :=
  x.tr (T' := T) (l' := l) ⟨nf.I hk, fun _ _ => ⟨rfl, rfl, rfl, fun _ _ => rfl⟩, fun _ _ => rfl⟩ (Nat.le_refl _) (Nat.le_refl _)
theorem NK.go {T l : Nat} {h h1 h2 : Hp} (x : NK T l h h1) (y : fm 9 11 h1 h2) : NK T l h h2 :=
  x.tr (T' := T) (l' := l) ⟨nf.go y, fun _ _ => ⟨by rw [y.1 14 (by decide)], by rw [y.1 15 (by decide)], by rw [y.1 17 (by decide)], fun _ _ => by rw [y.1 16 (by decide)]⟩, fun _ _ => by rw [y.1 18 (by decide)]⟩ (Nat.le_refl _) (Nat.le_refl _)
theorem NR.A {σ : MS} {h : Hp} (x : NR t has σ h) {a i : Nat} {z : Int} (ha : 14 ≤ a ∧ a ≤ 18) : NR t has σ (hA h a i z) := by
  obtain ⟨x1, x2, x3, x4, x5, x6⟩ := x
  refine ⟨(nf.A (by omega)).rm x1, x2, fun s hs => ?_, fun j hj => ?_, x5, x6⟩
  · rw [hA_at, if_neg (by omega)]
    exact x3 s hs
  · rw [hA_at, if_neg (by omega)]
    exact x4 j hj
theorem NR.I {σ : MS} {h : Hp} (x : NR t has σ h) {k : Nat} {z : Int} (hk : k = 16 ∨ k = 22 ∨ k = 25 ∨ k = 26 ∨ k = 28 ∨ k = 29) : NR t has σ (hI h 0 k z) := by
  obtain ⟨x1, x2, x3, x4, x5, x6⟩ := x
  refine ⟨(nf.I (by omega)).rm x1, ?_, x3, x4, ?_, ?_⟩
  · rw [hI_at, if_neg (by omega)]; exact x2
  · rw [hI_at, if_neg (by omega)]; exact x5
  · rw [hI_at, if_neg (by omega)]; exact x6
theorem NC.A {l : Nat} {σ : MS} {h : Hp} (x : NC t has l σ h) {a i : Nat} {z : Int} (ha : 14 ≤ a ∧ a ≤ 17) : NC t has l σ (hA h a i z) := by
  obtain ⟨x1, x2, x3⟩ := x
  refine ⟨x1.A (by omega), fun k hk => ?_, x3⟩
  rw [hA_at, if_neg (by omega)]
  exact x2 k hk
theorem NC.sp {l : Nat} {σ : MS} {h : Hp} (x : NC t has l σ h) (z : Int) : NC t has l σ (hI h 0 16 z) := by
  obtain ⟨x1, x2, x3, x4, x5, x6, x7⟩ := x
  refine ⟨x1.I (Or.inl rfl), x2, ?_, ?_, ?_, ?_, ?_⟩
  · rw [hI_at, if_neg (by omega)]; exact x3
  · rw [hI_at, if_neg (by omega)]; exact x4
  · rw [hI_at, if_neg (by omega)]; exact x5
  · rw [hI_at, if_neg (by omega)]; exact x6
  · rw [hI_at, if_neg (by omega)]; exact x7
theorem NC.go {l : Nat} {σ : MS} {h h' : Hp} (x : NC t has l σ h) (y : fm 9 11 h h') : NC t has l σ h' := by
  obtain ⟨⟨y1, y2, y3, y4, y5, y6⟩, x2, x3⟩ := x
  refine ⟨⟨y1.kp y (by decide), by rw [y.2]; exact y2, fun s hs => by rw [y.1 5 (by decide)]; exact y3 s hs, fun i hi => by rw [y.1 8 (by decide)]; exact y4 i hi, by rw [y.2]; exact y5, by rw [y.2]; exact y6⟩, fun k hk => by rw [y.1 18 (by decide)]; exact x2 k hk, ?_⟩
  rw [y.2]
  exact x3
theorem NC.pay {l : Nat} {σ : MS} {h : Hp} (x : NC t has l σ h) (c : Int) : NC t has l (pay c σ) (hI (hI h 0 23 (mL σ - c)) 0 24 (has - mL σ + c)) := by
  obtain ⟨⟨y1, y2, y3, y4, y5, y6⟩, x2, x3, x4, x5, x6, x7⟩ := x
  refine ⟨⟨((nf.I (by omega)).tr (nf.I (by omega))).rm y1, ?_, y3, y4, ?_, ?_⟩, x2, ?_, ?_, ?_, ?_, ?_⟩
  · rw [hI_at, if_neg (by omega), hI_at, if_pos ⟨rfl, rfl⟩]; rfl
  · rw [hI_at, if_neg (by omega), hI_at, if_neg (by omega)]; exact y5
  · rw [hI_at, if_pos ⟨rfl, rfl⟩]
    show _ = has - (mL σ - c)
    omega
  · rw [hI_at, if_neg (by omega), hI_at, if_neg (by omega)]; exact x3
  · rw [hI_at, if_neg (by omega), hI_at, if_neg (by omega)]; exact x4
  · rw [hI_at, if_neg (by omega), hI_at, if_neg (by omega)]; exact x5
  · rw [hI_at, if_neg (by omega), hI_at, if_neg (by omega)]; exact x6
  · rw [hI_at, if_neg (by omega), hI_at, if_neg (by omega)]; exact x7
theorem NC.tick {l : Nat} {σ : MS} {h : Hp} (x : NC t has l σ h) {s : Nat} (hs : s < 600) : NC t has l (tick s σ) (hA h 5 s (wr (h.1 5 s + 1))) := by
  obtain ⟨⟨y1, y2, y3, y4, y5, y6⟩, x2, x3⟩ := x
  refine ⟨⟨(nf.A (Or.inl rfl)).rm y1, y2, fun q hq => ?_, fun j hj => ?_, y5, y6⟩, fun k hk => ?_, x3⟩
  · show _ = up1 (mC σ) s _ q
    rw [hA_at, up1_at, y3 s hs]
    by_cases e : q = s
    · rw [if_pos ⟨rfl, e⟩, if_pos e]
    · rw [if_neg (fun z => e z.2), if_neg e]
      exact y3 q hq
  · rw [hA_at, if_neg (by omega)]
    exact y4 j hj
  · rw [hA_at, if_neg (by omega)]
    exact x2 k hk
/-- a frame: its step, its call, and the values that came -/
def FW (T s l : Nat) (vs : List Int) (h : Hp) : Prop := h.1 14 T = (s : Int) ∧ h.1 15 T = (vs.length : Int) ∧ h.1 17 T = (l : Int) ∧ ∀ (j : Nat) (v : Int), vs[j]? = some v → h.1 16 (3 * T + j) = v
theorem FW.sk {T l l' s : Nat} {vs : List Int} {h h' : Hp} (x : FW T s l' vs h) (y : NK (T + 1) l h h') (hl : vs.length ≤ 3) : FW T s l' vs h' := by
  obtain ⟨x1, x2, x3, x4⟩ := x
  obtain ⟨a1, a2, a3, a4⟩ := y.2.1 T (by omega)
  refine ⟨a1.trans x1, a2.trans x2, a3.trans x3, fun j v hj => ?_⟩
  have := (List.getElem?_eq_some_iff.mp hj).1
  rw [a4 j (by omega)]
  exact x4 j v hj
def LG (P : Int → Hp → Prop) (h : Hp) : Prop := Ok shM 0 0 mX9_run 184 [some (pR 0), none, none, none, none, none, none] [] h P
/-- a value goes to what waits -/
def EN (v : Int) (h : Hp) (Q : Hp → Prop) : Prop := Cl shM mX9_ends [pR 0, pI v] h (fun _ h' => Q h') ∧ Ok shM 0 0 mX9_ends2 2 [some (pR 0), some (pI v), some (pI 1)] [] h (fun _ h' => Q h')
theorem m_deliver {T s l : Nat} {vs : List Int} {v : Int} {h : Hp} {Q : Hp → Prop} (ht : h.2.1 0 16 = (T : Int) + 2) (hT : T < 500) (f : FW T s l vs h) (hl : vs.length < 3) (p : FW T s l (vs ++ [v]) (hA (hA (hI h 0 16 ((T : Int) + 1)) 16 (3 * T + vs.length) v) 15 T ((vs.length : Int) + 1)) → Q (hA (hA (hI h 0 16 ((T : Int) + 1)) 16 (3 * T + vs.length) v) 15 T ((vs.length : Int) + 1))) : EN v h Q := by
  obtain ⟨f1, f2, f3, f4⟩ := f
  have fin := p ⟨by rw [hA_at, if_neg (by omega), hA_at, if_neg (by omega)]; exact f1, by rw [hA_at, if_pos ⟨rfl, rfl⟩, List.length_append]; rfl, by rw [hA_at, if_neg (by omega), hA_at, if_neg (by omega)]; exact f3, fun j z hj => by
    rw [hA_at, if_neg (by omega), hA_at]
    by_cases c : j < vs.length
    · rw [List.getElem?_append_left c] at hj
      rw [if_neg (by omega)]
      exact f4 j z hj
    · have hlt := (List.getElem?_eq_some_iff.mp hj).1
      rw [List.length_append] at hlt
      have hlt : j < vs.length + 1 := hlt
      have e : j = vs.length := by omega
      rw [e] at hj ⊢
      rw [if_pos ⟨rfl, rfl⟩]
      simp at hj
      exact hj⟩
  constructor
  · refine sX9_ends_0 ?_
    rw [ht, show (T : Int) + 2 - 1 = (T : Int) + 1 by omega]
    refine ⟨by unfold inR; omega, fun _ => ⟨by unfold inR; omega, T, by omega, by omega, ?_⟩, fun c => absurd c (by omega)⟩
    rw [f2]
    exact ⟨fun _ => ⟨by unfold inR; omega, by unfold inR; omega, 3 * T + vs.length, by omega, by omega, by unfold inR; omega, fin⟩, fun c => absurd c (by omega)⟩
  · refine sX9_ends2_2 ?_
    rw [ht, show (T : Int) + 2 - 1 = (T : Int) + 1 by omega]
    refine ⟨fun c => absurd c (by decide), fun _ => ⟨by unfold inR; omega, fun _ => ⟨by unfold inR; omega, T, by omega, by omega, ?_⟩, fun c => absurd c (by omega)⟩⟩
    rw [f2]
    exact ⟨fun _ => ⟨by unfold inR; omega, by unfold inR; omega, 3 * T + vs.length, by omega, by omega, by unfold inR; omega, sX9_ends2_2 ⟨fun _ => fin, fun c => absurd rfl c⟩⟩, fun c => absurd c (by omega)⟩
end MM
