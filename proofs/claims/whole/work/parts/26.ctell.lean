/-! TELLING a step, a routine -/
abbrev badT (t : TV) (n x y z : Int) : Prop := (0 < n ∧ ¬ lo t x) ∨ (1 < n ∧ (¬ lo t y ∨ y = x)) ∨ (2 < n ∧ (¬ lo t z ∨ z = x ∨ z = y))
def hiT (t : TV) (n x y z : Int) : Nat := max (max (if 0 < n then hiL (plist t x) else 0) (if 1 < n then hiL (plist t y) else 0)) (if 2 < n then hiL (plist t z) else 0)
abbrev tellF (t : TV) (n x y z : Int) : Prop := 600 ≤ mk t ∨ 40 ≤ hiT t n x y z
def tellR (t : TV) (n x y z : Int) : Int := if badT t n x y z then -1 else if 600 ≤ mk t ∨ 40 ≤ hiT t n x y z then -3 else mk t
def tl1 (t : TV) (s : Nat) (n x : Int) : TV := if 0 < n then lnk t s 0 x.toNat else t
def tl2 (t : TV) (s : Nat) (n x y : Int) : TV := if 1 < n then lnk (tl1 t s n x) s 1 y.toNat else tl1 t s n x
def tl3 (t : TV) (s : Nat) (n x y z : Int) : TV := if 2 < n then lnk (tl2 t s n x y) s 2 z.toNat else tl2 t s n x y
def tellS (t : TV) (k v n x y z : Int) : TV := if badT t n x y z ∨ tellF t n x y z then t else tl3 (mkS t k v) (mk t) n x y z
section CT
variable {t : TV} {h : Hp} {P : Int → Hp → Prop}
theorem mkS_at (t : TV) (k v : Int) (r j : Nat) : (mkS t k v).1 r j = if r = 0 ∧ j = mk t then k else if r = 1 ∧ j = mk t then v else if r = 3 ∧ j = mk t then -4 else if r = 2 ∧ j / 3 = mk t then -4 else t.1 r j := rfl
theorem lnk_at (t : TV) (s k p r j : Nat) : (lnk t s k p).1 r j = if r = 3 ∧ j = p then (s : Int) else if r = 2 ∧ j = 3 * s + k then (p : Int) else t.1 r j := rfl
theorem al_mkS {t : TV} {k v : Int} {q : Int} (h : al t q) : al (mkS t k v) q := by
  have h1 := h.1
  have h2 := h.2.1
  refine ⟨h1, by show q < ((mk t + 1 : Nat) : Int); omega, ?_⟩
  show (mkS t k v).1 0 q.toNat ≠ -1
  rw [mkS_at, if_neg (by omega), if_neg (by omega), if_neg (by omega), if_neg (by omega)]
  exact h.2.2
theorem al_new {t : TV} {k v : Int} (hk : k ≠ -1) : al (mkS t k v) (mk t : Int) := by
  refine ⟨by omega, by show (mk t : Int) < ((mk t + 1 : Nat) : Int); omega, ?_⟩
  show (mkS t k v).1 0 (mk t : Int).toNat ≠ -1
  rw [mkS_at, if_pos ⟨rfl, rfl⟩]
  exact hk
theorem al_lnk {t : TV} {s k p : Nat} {q : Int} : al (lnk t s k p) q ↔ al t q := by
  unfold al
  have e : kd (lnk t s k p) q.toNat = kd t q.toNat := by
    show (lnk t s k p).1 0 q.toNat = t.1 0 q.toNat
    rw [lnk_at, if_neg (by omega), if_neg (by omega)]
  rw [e]
  exact Iff.rfl
theorem tl1_2 (t : TV) (s : Nat) (n x : Int) : (tl1 t s n x).2 = t.2 := by
  unfold tl1
  split <;> rfl
theorem tl2_2 (t : TV) (s : Nat) (n x y : Int) : (tl2 t s n x y).2 = t.2 := by
  unfold tl2
  split
  · show (tl1 t s n x).2 = t.2
    exact tl1_2 t s n x
  · exact tl1_2 t s n x
theorem al_tl1 {t : TV} {s : Nat} {n x q : Int} : al (tl1 t s n x) q ↔ al t q := by
  unfold tl1
  split
  · exact al_lnk
  · exact Iff.rfl
theorem al_tl2 {t : TV} {s : Nat} {n x y q : Int} : al (tl2 t s n x y) q ↔ al t q := by
  unfold tl2
  split
  · exact al_lnk.trans al_tl1
  · exact al_tl1
theorem c_forgetAll (p : P 0 (hI h 38 2 0)) : Cl shC mX4_forgetAll [pR 38] h P := sX4_forgetAll_0 p
theorem c_tellStep (w : WF t) (R : RC t h) {k : Int} (v n x y z : Int) (hk : k ≠ -1) (hn : 0 ≤ n ∧ n ≤ 3)
    (p1 : badT t n x y z → ∀ h', fr 9 13 h h' → P (-1) h') (p2 : ¬ badT t n x y z → tellF t n x y z → ∀ h', fr 9 13 h h' → P (-3) h')
    (p3 : ¬ badT t n x y z → ¬ tellF t n x y z → ∀ h', fr 2 13 h h' → RC (tl3 (mkS t k v) (mk t) n x y z) h' → P (mk t : Int) (hI h' 38 2 0)) :
    Cl shC mX8_tellStep [pR 0, pI k, pI v, pI n, pI x, pI y, pI z] h P := by
  have hm := R.m
  have s264 : ¬ badT t n x y z → ¬ tellF t n x y z → ∀ h', fr 2 13 h h' → RC (tl3 (mkS t k v) (mk t) n x y z) h' → Ok shC 0 0 mX8_tellStep 264 [some (pR 0), none, none, none, none, none, none, none, none, none, none, some (pI (mk t : Int))] [] h' P := fun b f h' x' R' => sX8_tellStep_264 (c_forgetAll (p3 b f h' x' R'))
  have hal : ∀ {q : Int}, lo t q → al t q ∧ q = (q.toNat : Int) := fun hq => ⟨hq.1, by have := hq.1.1; omega⟩
  have anew : al (mkS t k v) (mk t : Int) := al_new hk
  have pnew : ∀ j, j < 3 → pt (mkS t k v) (mk t) j = -4 := fun j hj => by
    show (mkS t k v).1 2 (3 * mk t + j) = -4
    rw [mkS_at, if_neg (by omega), if_neg (by omega), if_neg (by omega), if_pos ⟨rfl, by omega⟩]
  have s248 : ¬ badT t n x y z → ¬ tellF t n x y z → ∀ h', fr 2 13 h h' → RC (tl2 (mkS t k v) (mk t) n x y) h' → Ok shC 0 0 mX8_tellStep 248 [some (pR 0), none, none, some (pI n), none, none, some (pI z), none, none, none, none, some (pI (mk t : Int))] [] h' P := by
    intro b f h' x' R'
    refine sX8_tellStep_248 ⟨fun c => s264 b f h' x' ?_, fun c => ?_⟩
    · unfold tl3
      rw [if_neg (by omega)]
      exact R'
    · have hx : lo t x := Classical.byContradiction fun q => b (Or.inl ⟨by omega, q⟩)
      have hy : lo t y := Classical.byContradiction fun q => b (Or.inr (Or.inl ⟨by omega, Or.inl q⟩))
      have hz : lo t z := Classical.byContradiction fun q => b (Or.inr (Or.inr ⟨by omega, Or.inl q⟩))
      have e2 : tl2 (mkS t k v) (mk t) n x y = lnk (lnk (mkS t k v) (mk t) 0 x.toNat) (mk t) 1 y.toNat := by
        unfold tl2 tl1
        rw [if_pos (by omega), if_pos (by omega)]
      have hzz := (hal hz).2
      rw [hzz]
      refine c_append R' (k := 2) (al_tl2.mpr anew) (al_tl2.mpr (al_mkS (by rw [← hzz]; exact hz.1))) (by decide) (fun j hj => ?_) ?_ (fun h2 x2 R2 => s264 b f h2 (x'.tr (x2.wd (by decide) (by decide))) ?_)
      · have hx0 := hx.1.1
        have hy0 := hy.1.1
        rw [e2]
        show (lnk (lnk (mkS t k v) (mk t) 0 x.toNat) (mk t) 1 y.toNat).1 2 (3 * mk t + j) ≠ -4
        rw [lnk_at, if_neg (by omega), lnk_at, if_neg (by omega : ¬ (2 = 3 ∧ _))]
        rcases (by omega : j = 0 ∨ j = 1) with rfl | rfl
        · rw [if_neg (by omega), if_pos ⟨rfl, by omega⟩]
          omega
        · rw [if_pos ⟨rfl, rfl⟩]
          omega
      · rw [e2]
        show (lnk (lnk (mkS t k v) (mk t) 0 x.toNat) (mk t) 1 y.toNat).1 2 (3 * mk t + 2) = -4
        rw [lnk_at, if_neg (by omega), if_neg (by omega), lnk_at, if_neg (by omega), if_neg (by omega)]
        exact pnew 2 (by decide)
      · unfold tl3
        rw [if_pos (by omega)]
        exact R2
  have s232 : ¬ badT t n x y z → ¬ tellF t n x y z → ∀ h', fr 2 13 h h' → RC (tl1 (mkS t k v) (mk t) n x) h' → Ok shC 0 0 mX8_tellStep 232 [some (pR 0), none, none, some (pI n), none, some (pI y), some (pI z), none, none, none, none, some (pI (mk t : Int))] [] h' P := by
    intro b f h' x' R'
    refine sX8_tellStep_232 ⟨fun c => s248 b f h' x' ?_, fun c => ?_⟩
    · unfold tl2
      rw [if_neg (by omega)]
      exact R'
    · have hx : lo t x := Classical.byContradiction fun q => b (Or.inl ⟨by omega, q⟩)
      have hy : lo t y := Classical.byContradiction fun q => b (Or.inr (Or.inl ⟨by omega, Or.inl q⟩))
      have e2 : tl1 (mkS t k v) (mk t) n x = lnk (mkS t k v) (mk t) 0 x.toNat := by
        unfold tl1
        rw [if_pos (by omega)]
      have hyy := (hal hy).2
      rw [hyy]
      refine c_append R' (k := 1) (al_tl1.mpr anew) (al_tl1.mpr (al_mkS (by rw [← hyy]; exact hy.1))) (by decide) (fun j hj => ?_) ?_ (fun h2 x2 R2 => ?_)
      · have hx0 := hx.1.1
        rw [e2]
        show (lnk (mkS t k v) (mk t) 0 x.toNat).1 2 (3 * mk t + j) ≠ -4
        rw [lnk_at, if_neg (by omega), if_pos ⟨rfl, by omega⟩]
        omega
      · rw [e2]
        show (lnk (mkS t k v) (mk t) 0 x.toNat).1 2 (3 * mk t + 1) = -4
        rw [lnk_at, if_neg (by omega), if_neg (by omega)]
        exact pnew 1 (by decide)
      · refine s248 b f h2 (x'.tr (x2.wd (by decide) (by decide))) ?_
        unfold tl2
        rw [if_pos (by omega)]
        exact R2
  have s178 : ¬ badT t n x y z → ∀ h', fr 9 13 h h' → Ok shC 0 0 mX8_tellStep 178 [some (pR 0), some (pI k), some (pI v), some (pI n), some (pI x), some (pI y), some (pI z), none, none, none, none, none] [pI (hiT t n x y z : Int)] h' P := by
    intro b h' x'
    have R' := R.kp x' (Or.inl (by decide))
    refine sX8_tellStep_178 ?_
    rw [R'.1]
    refine ⟨fun c => sX8_tellStep_203 (p2 b (Or.inl (by omega)) h' x'), fun c => ⟨fun c2 => ?_, fun c2 => sX8_tellStep_203 (p2 b (Or.inr (by omega)) h' x')⟩⟩
    have f : ¬ tellF t n x y z := fun q => q.elim (fun q => by omega) (fun q => by omega)
    refine c_add R' (by omega) k v (fun h2 x2 R2 => ⟨fun c3 => s232 b f h2 ((x'.wd (by decide) (by decide)).tr (x2.wd (by decide) (by decide))) ?_, fun c3 => ?_⟩)
    · unfold tl1
      rw [if_neg (by omega)]
      exact R2
    · have hx : lo t x := Classical.byContradiction fun q => b (Or.inl ⟨by omega, q⟩)
      have hxx := (hal hx).2
      rw [hxx]
      refine c_append R2 (k := 0) anew (al_mkS (by rw [← hxx]; exact hx.1)) (by decide) (fun j hj => by omega) (pnew 0 (by decide)) (fun h3 x3 R3 => s232 b f h3 (((x'.wd (by decide) (by decide)).tr (x2.wd (by decide) (by decide))).tr (x3.wd (by decide) (by decide))) ?_)
      unfold tl1
      rw [if_pos (by omega)]
      exact R3
  have s152 : ¬ badT t n x y z → ∀ h', fr 9 13 h h' → Ok shC 0 0 mX8_tellStep 152 [some (pR 0), some (pI k), some (pI v), some (pI n), some (pI x), some (pI y), some (pI z), none, none, none, none, none] [pI ((max (if 0 < n then hiL (plist t x) else 0) (if 1 < n then hiL (plist t y) else 0) : Nat) : Int)] h' P := by
    intro b h' x'
    have R' := R.kp x' (Or.inl (by decide))
    refine sX8_tellStep_152 ⟨fun c => ?_, fun c => c_highOf w R' z (fun h2 x2 => ?_)⟩
    · have := s178 b h' x'
      unfold hiT at this
      rw [if_neg (show ¬ 2 < n by omega), Nat.max_zero] at this
      exact this
    · have := s178 b h2 (x'.tr x2)
      unfold hiT at this
      rw [if_pos (show 2 < n by omega)] at this
      rw [show max (((max (if 0 < n then hiL (plist t x) else 0) (if 1 < n then hiL (plist t y) else 0) : Nat)) : Int) (hiL (plist t z) : Int) = ((max (max (if 0 < n then hiL (plist t x) else 0) (if 1 < n then hiL (plist t y) else 0)) (hiL (plist t z)) : Nat) : Int) by omega]
      exact this
  have s126 : ¬ badT t n x y z → ∀ h', fr 9 13 h h' → Ok shC 0 0 mX8_tellStep 126 [some (pR 0), some (pI k), some (pI v), some (pI n), some (pI x), some (pI y), some (pI z), none, none, none, none, none] [pI ((if 0 < n then hiL (plist t x) else 0 : Nat) : Int)] h' P := by
    intro b h' x'
    have R' := R.kp x' (Or.inl (by decide))
    refine sX8_tellStep_126 ⟨fun c => ?_, fun c => c_highOf w R' y (fun h2 x2 => ?_)⟩
    · have := s152 b h' x'
      rw [if_neg (show ¬ 1 < n by omega), Nat.max_zero] at this
      exact this
    · have := s152 b h2 (x'.tr x2)
      rw [if_pos (show 1 < n by omega)] at this
      rw [show max ((if 0 < n then hiL (plist t x) else 0 : Nat) : Int) (hiL (plist t y) : Int) = ((max (if 0 < n then hiL (plist t x) else 0) (hiL (plist t y)) : Nat) : Int) by omega]
      exact this
  have s90 : ∀ (B1 B2 B3 : Prop) [Decidable B1] [Decidable B2] [Decidable B3], (badT t n x y z ↔ B1 ∨ B2 ∨ B3) → Ok shC 0 0 mX8_tellStep 90 [some (pR 0), some (pI k), some (pI v), some (pI n), some (pI x), some (pI y), some (pI z), some (pI (b2 B1)), some (pI (b2 B2)), none, none, none] [pI (b2 B3)] h P := by
    intro B1 B2 B3 _ _ _ hb
    refine sX8_tellStep_90 ⟨fun c => sX8_tellStep_107 (p1 (hb.mpr (Or.inl (b2_n0.mp c))) h fr.rf), fun c1 => ⟨fun c => sX8_tellStep_107 (p1 (hb.mpr (Or.inr (Or.inl (b2_n0.mp c)))) h fr.rf), fun c2 => ⟨fun c3 => ?_, fun c => sX8_tellStep_107 (p1 (hb.mpr (Or.inr (Or.inr (b2_n0.mp c)))) h fr.rf)⟩⟩⟩
    have b : ¬ badT t n x y z := fun q => (hb.mp q).elim (b2_0.mp c1) (fun q => q.elim (b2_0.mp c2) (b2_0.mp c3))
    refine ⟨fun c => ?_, fun c => c_highOf w R x (fun h2 x2 => ?_)⟩
    · have := s126 b h fr.rf
      rw [if_neg (show ¬ 0 < n by omega)] at this
      exact this
    · have := s126 b h2 x2
      rw [if_pos (show 0 < n by omega)] at this
      exact this
  have s52 : ∀ (B1 B2 : Prop) [Decidable B1] [Decidable B2], (badT t n x y z ↔ B1 ∨ B2 ∨ (2 < n ∧ (¬ lo t z ∨ z = x ∨ z = y))) → Ok shC 0 0 mX8_tellStep 52 [some (pR 0), some (pI k), some (pI v), some (pI n), some (pI x), some (pI y), some (pI z), some (pI (b2 B1)), none, none, none, none] [pI (b2 B2)] h P := by
    intro B1 B2 _ _ hb
    have k90 := s90 B1 B2 (2 < n ∧ (¬ lo t z ∨ z = x ∨ z = y)) hb
    refine sX8_tellStep_52 ⟨fun c => ?_, fun c => c_isLoose R z ⟨fun c2 => ?_, fun c2 => ⟨fun c3 => ?_, fun c3 => ⟨fun c4 => ?_, fun c4 => ?_⟩⟩⟩⟩
    · rwa [b2, b2, b2, if_neg (show ¬ (2 < n ∧ (¬ lo t z ∨ z = x ∨ z = y)) from fun q => by omega)] at k90
    · rwa [b2, b2, b2, if_pos (show (2 < n ∧ (¬ lo t z ∨ z = x ∨ z = y)) from ⟨by omega, Or.inl (b2_0.mp c2)⟩)] at k90
    · rwa [b2, b2, b2, if_pos (show (2 < n ∧ (¬ lo t z ∨ z = x ∨ z = y)) from ⟨by omega, Or.inr (Or.inl c3)⟩)] at k90
    · rwa [b2, b2, b2, if_neg (show ¬ (2 < n ∧ (¬ lo t z ∨ z = x ∨ z = y)) from fun q => q.2.elim (fun q => q (b2_n0.mp c2)) (fun q => q.elim c3 c4))] at k90
    · rwa [b2, b2, b2, if_pos (show (2 < n ∧ (¬ lo t z ∨ z = x ∨ z = y)) from ⟨by omega, Or.inr (Or.inr c4)⟩)] at k90
  have s21 : ∀ (B1 : Prop) [Decidable B1], (badT t n x y z ↔ B1 ∨ (1 < n ∧ (¬ lo t y ∨ y = x)) ∨ (2 < n ∧ (¬ lo t z ∨ z = x ∨ z = y))) → Ok shC 0 0 mX8_tellStep 21 [some (pR 0), some (pI k), some (pI v), some (pI n), some (pI x), some (pI y), some (pI z), none, none, none, none, none] [pI (b2 B1)] h P := by
    intro B1 _ hb
    have k52 := s52 B1 (1 < n ∧ (¬ lo t y ∨ y = x)) hb
    refine sX8_tellStep_21 ⟨fun c => ?_, fun c => c_isLoose R y ⟨fun c2 => ?_, fun c2 => ⟨fun c3 => ?_, fun c3 => ?_⟩⟩⟩
    · rwa [b2, b2, if_neg (show ¬ (1 < n ∧ (¬ lo t y ∨ y = x)) from fun q => by omega)] at k52
    · rwa [b2, b2, if_pos (show (1 < n ∧ (¬ lo t y ∨ y = x)) from ⟨by omega, Or.inl (b2_0.mp c2)⟩)] at k52
    · rwa [b2, b2, if_neg (show ¬ (1 < n ∧ (¬ lo t y ∨ y = x)) from fun q => q.2.elim (fun q => q (b2_n0.mp c2)) c3)] at k52
    · rwa [b2, b2, if_pos (show (1 < n ∧ (¬ lo t y ∨ y = x)) from ⟨by omega, Or.inr c3⟩)] at k52
  have k21 := s21 (0 < n ∧ ¬ lo t x) Iff.rfl
  refine sX8_tellStep_0 ⟨fun c => ?_, fun c => c_isLoose R x ⟨fun c2 => ?_, fun c2 => ?_⟩⟩
  · rwa [b2, if_neg (show ¬ (0 < n ∧ ¬ lo t x) from fun q => by omega)] at k21
  · rwa [b2, if_neg (show ¬ (0 < n ∧ ¬ lo t x) from fun q => q.2 (b2_n0.mp c2))] at k21
  · rwa [b2, if_pos (show (0 < n ∧ ¬ lo t x) from ⟨by omega, b2_0.mp c2⟩)] at k21
end CT
