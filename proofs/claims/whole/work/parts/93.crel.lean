/-! RUN: the class's machine, what stands in its cells -/
section CM
variable {t : TV}
def sz (t : TV) (s : Nat) : Nat := (plist t (s : Int)).length
def szs (t : TV) : List Nat → Nat
  | [] => 0
  | p :: L => sz t p + szs t L
theorem sz_600 (w : WF t) (s : Nat) : sz t s ≤ 600 := Nat.le_trans (plist_len w.trr) w.1
theorem sz_pos (w : WF t) {s : Nat} (hs : s < mk t) (hk : kd t s ≠ -1) : 1 ≤ sz t s := by
  unfold sz
  rw [plist_al (al_n.mpr ⟨hs, hk⟩)]
  show 1 ≤ ((s, 1) :: _).length
  rw [List.length_cons]
  omega
theorem sz_ch (w : WF t) {s : Nat} (hs : s < mk t) (hk : kd t s ≠ -1) : sz t s = 1 + szs t (ch t s) := by
  have hc : ∀ c ∈ ch t s, (pre t 39 2 c).length = sz t c := fun c hc => by
    have ha := ch_al w hs hk hc
    have h39 : tr t 39 c := tr_ch (w.tr' hs hk) hc
    unfold sz
    rw [plist_al (al_n.mpr ha), pre_stab h39 (by decide : 39 ≤ 40), show (2 : Nat) = 1 + 1 from rfl, pre_sh 39 1 1 c, List.length_map]
  have key : ∀ L : List Nat, (∀ c ∈ L, (pre t 39 2 c).length = sz t c) → (L.flatMap (pre t 39 2)).length = szs t L := by
    intro L
    induction L with
    | nil => exact fun _ => rfl
    | cons c L ih =>
      intro h
      rw [List.flatMap_cons, List.length_append, h c List.mem_cons_self, ih (fun x hx => h x (List.mem_cons_of_mem _ hx))]
      rfl
  show (plist t (s : Int)).length = _
  rw [plist_al (al_n.mpr ⟨hs, hk⟩)]
  show ((s, 1) :: (ch t s).flatMap (pre t 39 2)).length = _
  rw [List.length_cons, key _ hc]
  omega
/-- code, fuel, counts, row, most -/
def SR (t : TV) (σ : MS) (h : Hp) : Prop := RC t h ∧ h.2.1 19 11 = mL σ ∧ (∀ s, s < 600 → h.1 20 s = mC σ s) ∧ (∀ i, i < 8 → h.1 21 i = mR σ i) ∧ h.2.1 19 16 = mO σ
def SC (t : TV) (l : Nat) (σ : MS) (h : Hp) : Prop := SR t σ h ∧ (∀ k, k < 40 → h.1 23 (40 * (l - 1) + k) = mN σ k) ∧ h.2.1 19 10 = (l : Int) ∧ h.2.1 19 13 = 0 ∧ h.2.1 19 14 = 0 ∧ h.2.1 19 17 = -4 ∧ ∀ r, r < 10 → h.1 22 r = uses t (r : Int)
/-- the same where no value has come yet -/
def SZ (t : TV) (σ : MS) (h : Hp) : Prop := SR t σ h ∧ h.2.1 19 14 = 0
theorem SC.z {l : Nat} {σ : MS} {h : Hp} (x : SC t l σ h) : SZ t σ h := ⟨x.1, x.2.2.2.2.1⟩
def F12 (h h' : Hp) : Prop := fr 19 27 h h' ∧ h'.2.1 19 12 = h.2.1 19 12
theorem F12.rf {h : Hp} : F12 h h := ⟨fr.rf, rfl⟩
theorem F12.tr {h h1 h2 : Hp} (x : F12 h h1) (y : F12 h1 h2) : F12 h h2 := ⟨x.1.tr y.1, y.2.trans x.2⟩
theorem F12.A {h h1 : Hp} (x : F12 h h1) {a i : Nat} {z : Int} (ha : 19 ≤ a ∧ a ≤ 27) : F12 h (hA h1 a i z) := ⟨x.1.A ha, x.2⟩
theorem F12.I {h h1 : Hp} (x : F12 h h1) {k : Nat} {z : Int} (hk : k ≠ 12) : F12 h (hI h1 19 k z) := ⟨x.1.I ⟨by decide, by decide⟩, by rw [hI_at, if_neg (by omega)]; exact x.2⟩
/-- frames below T, calls below l are as they were -/
def SK (T l : Nat) (h h' : Hp) : Prop := F12 h h' ∧ (∀ i, i < T → h'.1 25 i = h.1 25 i ∧ h'.1 26 i = h.1 26 i ∧ ∀ j, j < 4 → h'.1 27 (4 * i + j) = h.1 27 (4 * i + j)) ∧ (∀ i, i < l → h'.1 24 i = h.1 24 i) ∧ ∀ x, x < 40 * (l - 1) → h'.1 23 x = h.1 23 x
theorem SK.rf {T l : Nat} {h : Hp} : SK T l h h := ⟨F12.rf, fun _ _ => ⟨rfl, rfl, fun _ _ => rfl⟩, fun _ _ => rfl, fun _ _ => rfl⟩
theorem SK.tr {T l T' l' : Nat} {h h1 h2 : Hp} (x : SK T l h h1) (y : SK T' l' h1 h2) (hT : T ≤ T') (hl : l ≤ l') : SK T l h h2 := by
  obtain ⟨x1, x2, x3, x4⟩ := x
  obtain ⟨y1, y2, y3, y4⟩ := y
  refine ⟨x1.tr y1, fun i hi => ?_, fun i hi => (y3 i (by omega)).trans (x3 i hi), fun z hz => (y4 z (by omega)).trans (x4 z hz)⟩
  obtain ⟨a1, a2, a3⟩ := x2 i hi
  obtain ⟨b1, b2, b3⟩ := y2 i (by omega)
  exact ⟨b1.trans a1, b2.trans a2, fun j hj => (b3 j hj).trans (a3 j hj)⟩
theorem SK.lo {T l T' l' : Nat} {h h1 : Hp} (x : SK T' l' h h1) (hT : T ≤ T') (hl : l ≤ l') : SK T l h h1 := SK.rf.tr x hT hl
/-- a cell of a frame from T on -/
theorem SK.A {T l : Nat} {h h1 : Hp} (x : SK T l h h1) {a i : Nat} {z : Int} (ha : (a = 20 ∨ a = 21 ∨ a = 22) ∨ ((a = 25 ∨ a = 26) ∧ T ≤ i) ∨ (a = 27 ∧ 4 * T ≤ i) ∨ (a = 24 ∧ l ≤ i) ∨ (a = 23 ∧ 40 * (l - 1) ≤ i)) : SK T l h (hA h1 a i z) := by
  refine x.tr (T' := T) (l' := l) ⟨F12.rf.A (by omega), fun j hj => ⟨?_, ?_, fun k hk => ?_⟩, fun j hj => ?_, fun y hy => ?_⟩ (Nat.le_refl _) (Nat.le_refl _)
  · rw [hA_at, if_neg (by omega)]
  · rw [hA_at, if_neg (by omega)]
  · rw [hA_at, if_neg (by omega)]
  · rw [hA_at, if_neg (by omega)]
  · rw [hA_at, if_neg (by omega)]
theorem SK.I {T l : Nat} {h h1 : Hp} (x : SK T l h h1) {k : Nat} {z : Int} (hk : k ≠ 12) : SK T l h (hI h1 19 k z) :=
  x.tr (T' := T) (l' := l) ⟨F12.rf.I hk, fun _ _ => ⟨rfl, rfl, fun _ _ => rfl⟩, fun _ _ => rfl, fun _ _ => rfl⟩ (Nat.le_refl _) (Nat.le_refl _)
theorem SR.A {σ : MS} {h : Hp} (x : SR t σ h) {a i : Nat} {z : Int} (ha : 22 ≤ a ∧ a ≤ 27) : SR t σ (hA h a i z) := by
  obtain ⟨x1, x2, x3, x4, x5⟩ := x
  refine ⟨x1.kp (fr.rf.A (lo := 19) (hi := 27) (by omega)) (Or.inl (by decide)), x2, fun s hs => ?_, fun j hj => ?_, x5⟩
  · rw [hA_at, if_neg (by omega)]
    exact x3 s hs
  · rw [hA_at, if_neg (by omega)]
    exact x4 j hj
theorem SR.I {σ : MS} {h : Hp} (x : SR t σ h) {k : Nat} {z : Int} (hk : k ≠ 11 ∧ k ≠ 16) : SR t σ (hI h 19 k z) := by
  obtain ⟨x1, x2, x3, x4, x5⟩ := x
  refine ⟨x1.kp (fr.rf.I (lo := 19) (hi := 27) ⟨by decide, by decide⟩) (Or.inl (by decide)), ?_, x3, x4, ?_⟩
  · rw [hI_at, if_neg (by omega)]
    exact x2
  · rw [hI_at, if_neg (by omega)]
    exact x5
theorem SC.A {l : Nat} {σ : MS} {h : Hp} (x : SC t l σ h) {a i : Nat} {z : Int} (ha : 24 ≤ a ∧ a ≤ 27) : SC t l σ (hA h a i z) := by
  obtain ⟨x1, x2, x3, x4, x5, x6, x7⟩ := x
  refine ⟨x1.A (by omega), fun k hk => ?_, x3, x4, x5, x6, fun r hr => ?_⟩
  · rw [hA_at, if_neg (by omega)]
    exact x2 k hk
  · rw [hA_at, if_neg (by omega)]
    exact x7 r hr
theorem SC.top {l : Nat} {σ : MS} {h : Hp} (x : SC t l σ h) (z : Int) : SC t l σ (hI h 19 9 z) := by
  obtain ⟨x1, x2, x3, x4, x5, x6, x7⟩ := x
  refine ⟨x1.I (by decide), x2, ?_, ?_, ?_, ?_, x7⟩
  · rw [hI_at, if_neg (by omega)]; exact x3
  · rw [hI_at, if_neg (by omega)]; exact x4
  · rw [hI_at, if_neg (by omega)]; exact x5
  · rw [hI_at, if_neg (by omega)]; exact x6
theorem SC.pay {l : Nat} {σ : MS} {h : Hp} (x : SC t l σ h) (c : Int) : SC t l (pay c σ) (hI h 19 11 (mL σ - c)) := by
  obtain ⟨⟨y1, y2, y3, y4, y5⟩, x2, x3, x4, x5, x6, x7⟩ := x
  refine ⟨⟨y1.kp (fr.rf.I (lo := 19) (hi := 27) ⟨by decide, by decide⟩) (Or.inl (by decide)), ?_, y3, y4, ?_⟩, x2, ?_, ?_, ?_, ?_, x7⟩
  · rw [hI_at, if_pos ⟨rfl, rfl⟩]; rfl
  · rw [hI_at, if_neg (by omega)]; exact y5
  · rw [hI_at, if_neg (by omega)]; exact x3
  · rw [hI_at, if_neg (by omega)]; exact x4
  · rw [hI_at, if_neg (by omega)]; exact x5
  · rw [hI_at, if_neg (by omega)]; exact x6
theorem SC.tick {l : Nat} {σ : MS} {h : Hp} (x : SC t l σ h) {s : Nat} (hs : s < 600) : SC t l (tick s σ) (hA h 20 s (wr (h.1 20 s + 1))) := by
  obtain ⟨⟨y1, y2, y3, y4, y5⟩, x2, x3, x4, x5, x6, x7⟩ := x
  refine ⟨⟨y1.kp (fr.rf.A (lo := 19) (hi := 27) ⟨by decide, by decide⟩) (Or.inl (by decide)), y2, fun q hq => ?_, fun j hj => ?_, y5⟩, fun k hk => ?_, x3, x4, x5, x6, fun r hr => ?_⟩
  · show _ = up1 (mC σ) s _ q
    rw [hA_at, up1_at, y3 s hs]
    by_cases e : q = s
    · rw [if_pos ⟨rfl, e⟩, if_pos e]
    · rw [if_neg (fun z => e z.2), if_neg e]
      exact y3 q hq
  · rw [hA_at, if_neg (by omega)]
    exact y4 j hj
  · rw [hA_at, if_neg (by omega)]
    exact x2 k hk
  · rw [hA_at, if_neg (by omega)]
    exact x7 r hr
/-- a frame: its step, and the values that came -/
def FV (T s : Nat) (vs : List Int) (h : Hp) : Prop := h.1 25 T = (s : Int) ∧ h.1 26 T = (vs.length : Int) ∧ ∀ (j : Nat) (v : Int), vs[j]? = some v → h.1 27 (4 * T + j) = v
theorem FV.sk {T l s : Nat} {vs : List Int} {h h' : Hp} (x : FV T s vs h) (y : SK (T + 1) l h h') (hl : vs.length ≤ 4) : FV T s vs h' := by
  obtain ⟨x1, x2, x3⟩ := x
  obtain ⟨a1, a2, a3⟩ := y.2.1 T (by omega)
  refine ⟨a1.trans x1, a2.trans x2, fun j v hj => ?_⟩
  have := (List.getElem?_eq_some_iff.mp hj).1
  rw [a3 j (by omega)]
  exact x3 j v hj
theorem c_deliver {T s : Nat} {vs : List Int} {v : Int} {h : Hp} {P : Int → Hp → Prop} (ht : h.2.1 19 9 = (T : Int) + 1) (hT : T < 480) (f : FV T s vs h) (hl : vs.length < 4) (p : FV T s (vs ++ [v]) (hA (hA h 27 (4 * T + vs.length) v) 26 T ((vs.length : Int) + 1)) → P 0 (hA (hA h 27 (4 * T + vs.length) v) 26 T ((vs.length : Int) + 1))) : Cl shC mX2_deliver [pR 19, pI v] h P := by
  obtain ⟨f1, f2, f3⟩ := f
  refine sX2_deliver_0 ?_
  rw [ht]
  refine ⟨by unfold inR; omega, fun _ => ⟨T, by omega, hT, ?_⟩, fun c => absurd (by omega) c⟩
  rw [f2]
  refine ⟨fun c => absurd c (by omega), fun _ => ⟨by unfold inR; omega, by unfold inR; omega, 4 * T + vs.length, by omega, by omega, by unfold inR; omega, p ⟨?_, ?_, fun j z hj => ?_⟩⟩⟩
  · rw [hA_at, if_neg (by omega), hA_at, if_neg (by omega)]; exact f1
  · rw [hA_at, if_pos ⟨rfl, rfl⟩, List.length_append]; rfl
  · rw [hA_at, if_neg (by omega), hA_at]
    by_cases c : j < vs.length
    · rw [List.getElem?_append_left c] at hj
      rw [if_neg (by omega)]
      exact f3 j z hj
    · have hlt := (List.getElem?_eq_some_iff.mp hj).1
      rw [List.length_append] at hlt
      have hlt : j < vs.length + 1 := hlt
      have e : j = vs.length := by omega
      rw [e] at hj ⊢
      rw [if_pos ⟨rfl, rfl⟩]
      simp at hj
      exact hj
end CM
