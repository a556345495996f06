/-! THE REFERENCE: telling a step -/
section MT
variable {t : TV} {h : Hp} {P : Int → Hp → Prop}
def mh (t : TV) (g : Nat → Int) : Nat → Nat
  | 0 => 0
  | i + 1 => max (mh t g i) (hiL (plist t (g i)))
def tg (t : TV) (s : Nat) (g : Nat → Int) : Nat → TV
  | 0 => t
  | i + 1 => lnk (tg t s g i) s i (g i).toNat
theorem mh_hi (t : TV) (g : Nat → Int) {n : Nat} (hn : n ≤ 3) : mh t g n = hiT t n (g 0) (g 1) (g 2) := by
  rcases (by omega : n = 0 ∨ n = 1 ∨ n = 2 ∨ n = 3) with rfl | rfl | rfl | rfl <;> simp [mh, hiT]
theorem tg_tl (t : TV) (s : Nat) (g : Nat → Int) {n : Nat} (hn : n ≤ 3) : tg t s g n = tl3 t s n (g 0) (g 1) (g 2) := by
  rcases (by omega : n = 0 ∨ n = 1 ∨ n = 2 ∨ n = 3) with rfl | rfl | rfl | rfl <;> simp [tg, tl3, tl2, tl1]
theorem bad_lo {t : TV} {g : Nat → Int} {n a : Nat} (hn : n ≤ 3) (ha : a < n) (h : ¬ lo t (g a)) : badT t n (g 0) (g 1) (g 2) := by
  rcases (by omega : a = 0 ∨ a = 1 ∨ a = 2) with rfl | rfl | rfl
  · exact Or.inl ⟨by omega, h⟩
  · exact Or.inr (Or.inl ⟨by omega, Or.inl h⟩)
  · exact Or.inr (Or.inr ⟨by omega, Or.inl h⟩)
theorem bad_eq {t : TV} {g : Nat → Int} {n a b : Nat} (hn : n ≤ 3) (ha : a < n) (hb : b < a) (h : g a = g b) : badT t n (g 0) (g 1) (g 2) := by
  rcases (by omega : (a = 1 ∧ b = 0) ∨ (a = 2 ∧ b = 0) ∨ (a = 2 ∧ b = 1)) with ⟨rfl, rfl⟩ | ⟨rfl, rfl⟩ | ⟨rfl, rfl⟩
  · exact Or.inr (Or.inl ⟨by omega, Or.inr h⟩)
  · exact Or.inr (Or.inr ⟨by omega, Or.inr (Or.inl h)⟩)
  · exact Or.inr (Or.inr ⟨by omega, Or.inr (Or.inr h)⟩)
theorem bad_no {t : TV} {g : Nat → Int} {n : Nat} (hg : ∀ a, a < n → lo t (g a) ∧ ∀ b, b < a → g a ≠ g b) : ¬ badT t n (g 0) (g 1) (g 2) := by
  rintro (⟨h1, h2⟩ | ⟨h1, h2⟩ | ⟨h1, h2⟩)
  · exact h2 (hg 0 (by omega)).1
  · exact h2.elim (fun q => q (hg 1 (by omega)).1) (fun q => (hg 1 (by omega)).2 0 (by decide) q)
  · exact h2.elim (fun q => q (hg 2 (by omega)).1) (fun q => q.elim (fun q => (hg 2 (by omega)).2 0 (by decide) q) (fun q => (hg 2 (by omega)).2 1 (by decide) q))
theorem tg_2 (t : TV) (s : Nat) (g : Nat → Int) : ∀ i, (tg t s g i).2 = t.2
  | 0 => rfl
  | i + 1 => by
    show (tg t s g i).2 = t.2
    exact tg_2 t s g i
theorem hi_40 (w : WF t) (z : Int) : hiL (plist t z) ≤ 40 := hiL_le (fun _ hq => (plist_d w hq).2)
theorem m_comesUp (w : WF t) (R : RM t h) (k v : Int) {n : Nat} (hn : n ≤ 3) (x y z : Int) (hg : (0 < n → h.1 12 0 = x) ∧ (1 < n → h.1 12 1 = y) ∧ (2 < n → h.1 12 2 = z))
    (p1 : badT t n x y z → P (-1) h) (p2 : ¬ badT t n x y z → tellF t n x y z → ∀ h', fm 9 11 h h' → P (-3) h')
    (p3 : ¬ badT t n x y z → ¬ tellF t n x y z → ∀ h', gf 1 11 h h' → cz (mk t) h h' → RM (tl3 (mkS t k v) (mk t) n x y z) h' → P (mk t : Int) (hI h' 0 13 0)) :
    Cl shM mX9_comesUp [pR 0, pI k, pI v, pI (n : Int)] h P := by
  have hm := R.m
  have tot : ∀ a, a < n → h.1 12 a = (if a = 0 then x else if a = 1 then y else z) := by
    intro a ha
    rcases (by omega : a = 0 ∨ a = 1 ∨ a = 2) with rfl | rfl | rfl
    · exact hg.1 ha
    · exact hg.2.1 ha
    · exact hg.2.2 ha
  obtain ⟨g, hgd⟩ : ∃ g : Nat → Int, g = fun a => if a = 0 then x else if a = 1 then y else z := ⟨_, rfl⟩
  have g0 : g 0 = x := by rw [hgd]; rfl
  have g1 : g 1 = y := by rw [hgd]; rfl
  have g2 : g 2 = z := by rw [hgd]; rfl
  have tot : ∀ a, a < n → h.1 12 a = g a := by rw [hgd]; exact tot
  rw [← g0, ← g1, ← g2] at p1 p2 p3
  have l144 : ∀ (m i : Nat) (h1 : Hp), i + m = n → ¬ badT t n (g 0) (g 1) (g 2) → ¬ tellF t n (g 0) (g 1) (g 2) → gf 1 11 h h1 → cz (mk t) h h1 → RM (tg (mkS t k v) (mk t) g i) h1 → Ok shM 0 0 mX9_comesUp 144 [some (pR 0), none, none, some (pI (n : Int)), none, some (pI (mk t : Int)), some (pI (i : Int))] [] h1 P := by
    intro m
    induction m with
    | zero =>
      intro i h1 hi b f x1 c1 R1
      have e : i = n := hi
      subst e
      rw [tg_tl _ _ _ hn] at R1
      exact sX9_comesUp_144 ⟨fun _ => p3 b f h1 x1 c1 R1, fun c => absurd (Int.le_refl _) c⟩
    | succ m ih =>
      intro i h1 hi b f x1 c1 R1
      have hlo : lo t (g i) := Classical.byContradiction fun q => b (bad_lo hn (by omega) q)
      have hl1 := hlo.1.1
      have hl2 := hlo.1.2.1
      refine sX9_comesUp_144 ⟨fun c => absurd c (by omega), fun _ => ⟨i, rfl, by omega, ?_⟩⟩
      rw [x1.1 12 (by decide), tot i (by omega), show g i = ((g i).toNat : Int) by omega]
      have hmk : mk t < 600 := Classical.byContradiction fun q => f (Or.inl (by omega))
      refine m_setPart R1 hmk (by omega) (by omega) (fun h2 x2 R2 => ⟨by unfold inR; omega, ?_⟩)
      exact ih (i + 1) h2 (by omega) b f (x1.tr (x2.wd (by decide) (by decide))) (c1.tr (cz.of (m := mk t) (x2.1 5 (by decide)) (x2.1 8 (by decide))) (Nat.le_refl _)) R2
  have l72 : ∀ (m i : Nat) (h1 : Hp), i + m = n → ¬ badT t n (g 0) (g 1) (g 2) → fm 9 11 h h1 → Ok shM 0 0 mX9_comesUp 72 [some (pR 0), some (pI k), some (pI v), some (pI (n : Int)), some (pI (mh t g i : Int)), some (pI (i : Int)), none] [] h1 P := by
    intro m
    induction m with
    | zero =>
      intro i h1 hi b x1
      have e : i = n := hi
      subst e
      have R1 := R.kp x1 (by decide)
      have hle : mh t g i ≤ 40 := by
        rw [mh_hi t g hn]
        unfold hiT
        have := hi_40 w (g 0)
        have := hi_40 w (g 1)
        have := hi_40 w (g 2)
        split <;> split <;> split <;> omega
      have hmh := mh_hi t g hn
      refine sX9_comesUp_72 ⟨fun _ => ?_, fun c => absurd (Int.le_refl _) c⟩
      rw [R1.1]
      refine ⟨fun c => p2 b (Or.inl (by omega)) h1 x1, fun c => ⟨fun c2 => ?_, fun c2 => p2 b (Or.inr (by omega)) h1 x1⟩⟩
      have f : ¬ tellF t i (g 0) (g 1) (g 2) := fun q => q.elim (fun q => by omega) (fun q => by omega)
      refine m_make R1 (by omega) k v (fun h2 x2 c3 R2 => ?_)
      exact l144 i 0 h2 (by omega) b f ((x1.gf.wd (by decide) (by decide)).tr (x2.wd (by decide) (by decide))) ((cz.of (m := mk t) (x1.1 5 (by decide)) (x1.1 8 (by decide))).tr c3 (Nat.le_refl _)) R2
    | succ m ih =>
      intro i h1 hi b x1
      have R1 := R.kp x1 (by decide)
      have hlo : lo t (g i) := Classical.byContradiction fun q => b (bad_lo hn (by omega) q)
      refine sX9_comesUp_72 ⟨fun c => absurd c (by omega), fun _ => ⟨i, rfl, by omega, ?_⟩⟩
      rw [x1.1 12 (by decide), tot i (by omega)]
      refine m_high w R1 hlo.1 (fun h2 x2 => ⟨fun c => ⟨by unfold inR; omega, ?_⟩, fun c => ⟨by unfold inR; omega, ?_⟩⟩)
      · have := ih (i + 1) h2 (by omega) b (x1.tr x2)
        unfold mh at this
        rw [show max (mh t g i) (hiL (plist t (g i))) = mh t g i by omega] at this
        exact this
      · have := ih (i + 1) h2 (by omega) b (x1.tr x2)
        unfold mh at this
        rw [show max (mh t g i) (hiL (plist t (g i))) = hiL (plist t (g i)) by omega] at this
        exact this
  have l6 : ∀ (m i : Nat), i + m = n → (∀ a, a < i → lo t (g a) ∧ ∀ b, b < a → g a ≠ g b) → Ok shM 0 0 mX9_comesUp 6 [some (pR 0), some (pI k), some (pI v), some (pI (n : Int)), some (pI 0), some (pI (i : Int)), none] [] h P := by
    intro m
    induction m with
    | zero =>
      intro i hi ha
      have e : i = n := hi
      subst e
      exact sX9_comesUp_6 ⟨fun _ => l72 i 0 h (by omega) (bad_no ha) fm.rf, fun c => absurd (Int.le_refl _) c⟩
    | succ m ih =>
      intro i hi ha
      refine sX9_comesUp_6 ⟨fun c => absurd c (by omega), fun _ => ⟨i, rfl, by omega, ?_⟩⟩
      rw [tot i (by omega)]
      refine m_isLoose w R _ ⟨fun c => ?_, fun c => p1 (bad_lo hn (by omega) (b2_0.mp c))⟩
      have hlo := b2_n0.mp c
      have l31 : ∀ (q j : Nat), j + q = i → (∀ b, b < j → g i ≠ g b) → Ok shM 0 0 mX9_comesUp 31 [some (pR 0), some (pI k), some (pI v), some (pI (n : Int)), some (pI 0), some (pI (i : Int)), some (pI (j : Int))] [] h P := by
        intro q
        induction q with
        | zero =>
          intro j hj hb
          have e : j = i := hj
          subst e
          refine sX9_comesUp_31 ⟨fun _ => ⟨by unfold inR; omega, ih (j + 1) (by omega) (fun a ha2 => ?_)⟩, fun c => absurd (Int.le_refl _) c⟩
          by_cases e : a = j
          · rw [e]
            exact ⟨hlo, hb⟩
          · exact ha a (by omega)
        | succ q ih2 =>
          intro j hj hb
          refine sX9_comesUp_31 ⟨fun c => absurd c (by omega), fun _ => ⟨i, rfl, by omega, ⟨j, rfl, by omega, ?_⟩⟩⟩
          rw [tot i (by omega), tot j (by omega)]
          refine ⟨fun c => ⟨by unfold inR; omega, ih2 (j + 1) (by omega) (fun b hb2 => ?_)⟩, fun c => p1 (bad_eq hn (by omega) (show j < i by omega) c)⟩
          by_cases e : b = j
          · rw [e]
            exact c
          · exact hb b (by omega)
      exact l31 i 0 (by omega) (fun b hb => by omega)
  exact sX9_comesUp_0 (l6 n 0 (by omega) (fun a ha => by omega))
end MT
