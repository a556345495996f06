/-! MATHEMATICAL STATE of the code: roles 0 kinds, 1 numbers, 2 parts (3 s + k), 3 parents, 4 params, 5 bodies; how many steps, routines -/
abbrev TV : Type := (Nat → Nat → Int) × (Nat × Nat)
abbrev mk (t : TV) : Nat := t.2.1
abbrev rt (t : TV) : Nat := t.2.2
abbrev kd (t : TV) (s : Nat) : Int := t.1 0 s
abbrev nm (t : TV) (s : Nat) : Int := t.1 1 s
abbrev pt (t : TV) (s k : Nat) : Int := t.1 2 (3 * s + k)
abbrev up (t : TV) (s : Nat) : Int := t.1 3 s
abbrev pr (t : TV) (r : Nat) : Int := t.1 4 r
abbrev bd (t : TV) (r : Nat) : Int := t.1 5 r
/-- a heap holds a state in its arrays (by role) -/
def Hd (ρ : Nat → Nat) (t : TV) (h : Hp) : Prop :=
  mk t ≤ 600 ∧ rt t ≤ 10 ∧ (∀ s, s < mk t → h.1 (ρ 0) s = kd t s ∧ h.1 (ρ 1) s = nm t s ∧ h.1 (ρ 3) s = up t s) ∧ (∀ j, j < 3 * mk t → h.1 (ρ 2) j = t.1 2 j) ∧ ∀ r, r < rt t → h.1 (ρ 4) r = pr t r ∧ h.1 (ρ 5) r = bd t r
abbrev ρC (i : Nat) : Nat := 3 + i
abbrev ρM (i : Nat) : Nat := if i < 4 then 1 + i else 2 + i
def RC (t : TV) (h : Hp) : Prop := h.2.1 2 6 = (mk t : Int) ∧ h.2.1 2 7 = (rt t : Int) ∧ Hd ρC t h
/-- nothing changes outside the cells lo .. hi -/
def fr (lo hi : Nat) (h h' : Hp) : Prop := (∀ a, a < lo ∨ hi < a → h'.1 a = h.1 a ∧ h'.2.1 a = h.2.1 a) ∧ h'.2.2 = h.2.2
theorem fr.rf {lo hi : Nat} {h : Hp} : fr lo hi h h := ⟨fun _ _ => ⟨rfl, rfl⟩, rfl⟩
theorem fr.tr {lo hi : Nat} {h h1 h2 : Hp} (x : fr lo hi h h1) (y : fr lo hi h1 h2) : fr lo hi h h2 :=
  ⟨fun a ha => ⟨(y.1 a ha).1.trans (x.1 a ha).1, (y.1 a ha).2.trans (x.1 a ha).2⟩, y.2.trans x.2⟩
theorem fr.wd {lo hi lo' hi' : Nat} {h h1 : Hp} (x : fr lo hi h h1) (h1' : lo' ≤ lo) (h2' : hi ≤ hi') : fr lo' hi' h h1 := ⟨fun a ha => x.1 a (by omega), x.2⟩
theorem fr.A {lo hi : Nat} {h h1 : Hp} (x : fr lo hi h h1) {a i : Nat} {z : Int} (ha : lo ≤ a ∧ a ≤ hi) : fr lo hi h (hA h1 a i z) :=
  ⟨fun b hb => ⟨by
    rw [← (x.1 b hb).1]
    funext j
    show (if b = a ∧ j = i then z else h1.1 b j) = _
    rw [if_neg (by omega)], (x.1 b hb).2⟩, x.2⟩
theorem fr.I {lo hi : Nat} {h h1 : Hp} (x : fr lo hi h h1) {o k : Nat} {z : Int} (ha : lo ≤ o ∧ o ≤ hi) : fr lo hi h (hI h1 o k z) :=
  ⟨fun b hb => ⟨(x.1 b hb).1, by
    rw [← (x.1 b hb).2]
    funext j
    show (if b = o ∧ j = k then z else h1.2.1 b j) = _
    rw [if_neg (by omega)]⟩, x.2⟩
theorem fr.C {lo hi : Nat} {h h1 : Hp} (x : fr lo hi h h1) {a b sp dp n : Nat} (ha : lo ≤ b ∧ b ≤ hi) : fr lo hi h (copyTo h1 a b sp dp n) :=
  ⟨fun q hq => ⟨by
    rw [← (x.1 q hq).1]
    funext j
    show (if q = b ∧ dp ≤ j ∧ j < dp + n then h1.1 a (sp + (j - dp)) else h1.1 q j) = _
    rw [if_neg (by omega)], (x.1 q hq).2⟩, x.2⟩
theorem fr.a {lo hi : Nat} {h h1 : Hp} (x : fr lo hi h h1) {a : Nat} (ha : a < lo ∨ hi < a) : h1.1 a = h.1 a := (x.1 a ha).1
theorem fr.i {lo hi : Nat} {h h1 : Hp} (x : fr lo hi h h1) {a : Nat} (ha : a < lo ∨ hi < a) : h1.2.1 a = h.2.1 a := (x.1 a ha).2
theorem hA_at (h : Hp) (a i : Nat) (z : Int) (b j : Nat) : (hA h a i z).1 b j = if b = a ∧ j = i then z else h.1 b j := rfl
theorem hA_i (h : Hp) (a i : Nat) (z : Int) : (hA h a i z).2 = h.2 := rfl
theorem hI_a (h : Hp) (o k : Nat) (z : Int) : (hI h o k z).1 = h.1 := rfl
theorem hI_at (h : Hp) (o k : Nat) (z : Int) (q j : Nat) : (hI h o k z).2.1 q j = if q = o ∧ j = k then z else h.2.1 q j := rfl
theorem hI_c (h : Hp) (o k : Nat) (z : Int) : (hI h o k z).2.2 = h.2.2 := rfl
theorem RC.kp {lo hi : Nat} {t : TV} {h h' : Hp} (r : RC t h) (x : fr lo hi h h') (hl : 8 < lo ∨ hi < 2) : RC t h' := by
  obtain ⟨r1, r2, r3, r4, r5, r6, r7⟩ := r
  have e2 : h'.2.1 2 = h.2.1 2 := x.i (by omega)
  have e : ∀ i, i < 6 → h'.1 (ρC i) = h.1 (ρC i) := fun i h6 => x.a (by show 3 + i < lo ∨ hi < 3 + i; omega)
  refine ⟨by rw [e2]; exact r1, by rw [e2]; exact r2, r3, r4, fun s hs => ?_, fun j hj => ?_, fun q hq => ?_⟩
  · rw [e 0 (by decide), e 1 (by decide), e 3 (by decide)]
    exact r5 s hs
  · rw [e 2 (by decide)]
    exact r6 j hj
  · rw [e 4 (by decide), e 5 (by decide)]
    exact r7 q hq
theorem RC.k {t : TV} {h : Hp} (r : RC t h) {s : Nat} (hs : s < mk t) : h.1 3 s = kd t s := (r.2.2.2.2.1 s hs).1
theorem RC.n {t : TV} {h : Hp} (r : RC t h) {s : Nat} (hs : s < mk t) : h.1 4 s = nm t s := (r.2.2.2.2.1 s hs).2.1
theorem RC.u {t : TV} {h : Hp} (r : RC t h) {s : Nat} (hs : s < mk t) : h.1 6 s = up t s := (r.2.2.2.2.1 s hs).2.2
theorem RC.p {t : TV} {h : Hp} (r : RC t h) {s k : Nat} (hs : s < mk t) (hk : k < 3) : h.1 5 (3 * s + k) = pt t s k := r.2.2.2.2.2.1 (3 * s + k) (by omega)
theorem RC.q {t : TV} {h : Hp} (r : RC t h) {q : Nat} (hq : q < rt t) : h.1 7 q = pr t q := (r.2.2.2.2.2.2 q hq).1
theorem RC.b {t : TV} {h : Hp} (r : RC t h) {q : Nat} (hq : q < rt t) : h.1 8 q = bd t q := (r.2.2.2.2.2.2 q hq).2
theorem RC.m {t : TV} {h : Hp} (r : RC t h) : mk t ≤ 600 ∧ rt t ≤ 10 := ⟨r.2.2.1, r.2.2.2.1⟩
/-- an index that is asked -/
theorem exI {e : Int} {n : Nat} {P : Nat → Prop} (h0 : 0 ≤ e) (h1 : e < n) (p : P e.toNat) : ∃ k : Nat, e = (k : Int) ∧ k < n ∧ P k := ⟨e.toNat, by omega, by omega, p⟩
theorem Cl.cps {Sg : Nat → List Sh} {G : MI} {av : List PV} {h : Hp} {P : Int → Hp → Prop} (Q : Int → Hp → Prop) (k : Cl Sg G av h Q) (p : ∀ r h', Q r h' → P r h') : Cl Sg G av h P := k.mono p
/-- what is asked of a state: by number z, in range or not -/
abbrev al (t : TV) (z : Int) : Prop := 0 ≤ z ∧ z < (mk t : Int) ∧ kd t z.toNat ≠ -1
def kdI (t : TV) (z : Int) : Int := if 0 ≤ z ∧ z < (mk t : Int) then kd t z.toNat else -1
def nmI (t : TV) (z : Int) : Int := if 0 ≤ z ∧ z < (mk t : Int) then nm t z.toNat else 0
def ptI (t : TV) (z k : Int) : Int := if (0 ≤ z ∧ z < (mk t : Int)) ∧ 0 ≤ k ∧ k < 3 then pt t z.toNat k.toNat else -4
def upI (t : TV) (z : Int) : Int := if 0 ≤ z ∧ z < (mk t : Int) then up t z.toNat else -4
def prI (t : TV) (z : Int) : Int := if 0 ≤ z ∧ z < (rt t : Int) then pr t z.toNat else 0
def bdI (t : TV) (z : Int) : Int := if 0 ≤ z ∧ z < (rt t : Int) then bd t z.toNat else -4
/-- the first routine from i on whose body it is -/
def owF (t : TV) (z : Int) : Nat → Nat → Int
  | 0, _ => -4
  | n + 1, i => if bd t i = z then (i : Int) else owF t z n (i + 1)
def ow (t : TV) (z : Int) : Int := owF t z (rt t) 0
abbrev lo (t : TV) (z : Int) : Prop := al t z ∧ upI t z = -4 ∧ ow t z = -4
/-- the outermost step of its tree, and how many stand above -/
def root (t : TV) : Nat → Int → Int
  | 0, z => z
  | n + 1, z => if upI t z = -4 then z else root t n (upI t z)
def above (t : TV) : Nat → Int → Nat
  | 0, _ => 0
  | n + 1, z => if z = -4 then 0 else above t n (upI t z) + 1
abbrev b2 (p : Prop) [Decidable p] : Int := if p then 1 else 0
def home (t : TV) (z : Int) : Int := if al t z then ow t (root t 40 z) else -4
abbrev cib (t : TV) (z : Int) : Prop := kdI t z = 6 ∧ home t z ≠ -4
/-- parts, in order -/
def chF (t : TV) (s : Nat) : Nat → List Nat
  | 0 => []
  | k + 1 => (if 0 ≤ pt t s (3 - (k + 1)) then [(pt t s (3 - (k + 1))).toNat] else []) ++ chF t s k
def ch (t : TV) (s : Nat) : List Nat := chF t s 3
/-- the steps of a tree with how deep they stand, each ahead of its parts -/
def pre (t : TV) : Nat → Nat → Nat → List (Nat × Nat)
  | 0, _, _ => []
  | n + 1, d, s => (s, d) :: (ch t s).flatMap (pre t n (d + 1))
/-- a tree as far as it goes: alive steps, each the parent of its parts; n high at most -/
def tr (t : TV) : Nat → Nat → Prop
  | 0, _ => False
  | n + 1, s => s < mk t ∧ kd t s ≠ -1 ∧ (∀ k, k < 3 → pt t s k < 0 ∨ (pt t s k < (mk t : Int) ∧ up t (pt t s k).toNat = (s : Int) ∧ ∀ j, j < 3 → j ≠ k → pt t s j ≠ pt t s k)) ∧ ∀ c ∈ ch t s, tr t n c
theorem owF_ge (t : TV) (z : Int) : ∀ n i : Nat, owF t z n i = -4 ∨ ∃ k : Nat, owF t z n i = (k : Int) ∧ i ≤ k ∧ k < i + n ∧ bd t k = z
  | 0, _ => Or.inl rfl
  | n + 1, i => by
    unfold owF
    split
    · rename_i hc
      exact Or.inr ⟨i, rfl, Nat.le_refl _, by omega, hc⟩
    · rcases owF_ge t z n (i + 1) with e | ⟨k, e, h1, h2, h3⟩
      · exact Or.inl e
      · exact Or.inr ⟨k, e, by omega, by omega, h3⟩
theorem owF_none {t : TV} {z : Int} : ∀ {n i : Nat}, owF t z n i = -4 → ∀ k : Nat, i ≤ k → k < i + n → bd t k ≠ z
  | 0, _, _, _, h1, h2 => by omega
  | n + 1, i, h, k, h1, h2 => by
    unfold owF at h
    split at h
    · omega
    · rename_i hc
      by_cases e : k = i
      · rw [e]
        exact hc
      · exact owF_none h k (by omega) (by omega)
