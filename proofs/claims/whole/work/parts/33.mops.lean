/-! THE REFERENCE: changes -/
theorem RM.wr {t : TV} {h : Hp} (R : RM t h) {ro : Nat} (hro : ro < 6) (i : Nat) (v : Int) : RM (tw t ro i v) (hA h (ρM ro) i v) :=
  ⟨R.1, R.2.1, Hd.wr R.2.2 (fun a ha => by
    unfold ρM
    split <;> split <;> omega) i v⟩
theorem RM.te {t t' : TV} {h : Hp} (R : RM t h) (e : TE t t') : RM t' h := ⟨by rw [e.1]; exact R.1, by rw [e.2.1]; exact R.2.1, Hd.te R.2.2 e⟩
theorem RM.oth {t : TV} {h : Hp} (R : RM t h) {a : Nat} (ha : a = 0 ∨ a = 5 ∨ 8 ≤ a) (i : Nat) (v : Int) : RM t (hA h a i v) := by
  obtain ⟨r1, r2, r3, r4, r5, r6, r7⟩ := R
  have e : ∀ b j, b < 6 → (hA h a i v).1 (ρM b) j = h.1 (ρM b) j := fun b j hb => by
    rw [hA_at, if_neg]
    unfold ρM
    split <;> omega
  exact ⟨r1, r2, r3, r4, fun s hs => by rw [e 0 s (by decide), e 1 s (by decide), e 3 s (by decide)]; exact r5 s hs, fun j hj => by rw [e 2 j (by decide)]; exact r6 j hj, fun q hq => by rw [e 4 q (by decide), e 5 q (by decide)]; exact r7 q hq⟩
theorem RM.same {t : TV} {h : Hp} (R : RM t h) {ro i : Nat} (hro : ro < 6) {v : Int} (e : t.1 ro i = v) : RM t (hA h (ρM ro) i v) := by
  have := R.wr hro i v
  rwa [tw_id e] at this
/-- arrays lo .. hi change, and how many steps there are -/
def gf (lo hi : Nat) (h h' : Hp) : Prop := (∀ a, a < lo ∨ hi < a → h'.1 a = h.1 a) ∧ (∀ o k, ¬ (o = 0 ∧ k = 0) → h'.2.1 o k = h.2.1 o k) ∧ h'.2.2 = h.2.2
theorem gf.rf {lo hi : Nat} {h : Hp} : gf lo hi h h := ⟨fun _ _ => rfl, fun _ _ _ => rfl, rfl⟩
theorem gf.tr {lo hi : Nat} {h h1 h2 : Hp} (x : gf lo hi h h1) (y : gf lo hi h1 h2) : gf lo hi h h2 := ⟨fun a ha => (y.1 a ha).trans (x.1 a ha), fun o k q => (y.2.1 o k q).trans (x.2.1 o k q), y.2.2.trans x.2.2⟩
theorem gf.wd {lo hi lo' hi' : Nat} {h h1 : Hp} (x : gf lo hi h h1) (h1' : lo' ≤ lo) (h2' : hi ≤ hi') : gf lo' hi' h h1 := ⟨fun a ha => x.1 a (by omega), x.2⟩
theorem gf.A {lo hi : Nat} {h h1 : Hp} (x : gf lo hi h h1) {a i : Nat} {z : Int} (ha : lo ≤ a ∧ a ≤ hi) : gf lo hi h (hA h1 a i z) :=
  ⟨fun b hb => by
    rw [← x.1 b hb]
    funext j
    show (if b = a ∧ j = i then z else h1.1 b j) = _
    rw [if_neg (by omega)], x.2⟩
theorem gf.I {lo hi : Nat} {h h1 : Hp} (x : gf lo hi h h1) {z : Int} : gf lo hi h (hI h1 0 0 z) :=
  ⟨x.1, fun o k q => by
    rw [hI_at, if_neg q]
    exact x.2.1 o k q, x.2.2⟩
theorem fm.gf {lo hi : Nat} {h h1 : Hp} (x : fm lo hi h h1) : gf lo hi h h1 := ⟨x.1, fun o k _ => by rw [x.2], by rw [x.2]⟩
/-- counts: those from m on may have become 0; the row stays -/
def cz (m : Nat) (h h' : Hp) : Prop := (∀ s, h'.1 5 s = h.1 5 s ∨ (m ≤ s ∧ h'.1 5 s = 0)) ∧ h'.1 8 = h.1 8
theorem cz.rf {m : Nat} {h : Hp} : cz m h h := ⟨fun _ => Or.inl rfl, rfl⟩
theorem cz.of {m : Nat} {h h' : Hp} (e : h'.1 5 = h.1 5) (e8 : h'.1 8 = h.1 8) : cz m h h' := ⟨fun _ => Or.inl (by rw [e]), e8⟩
theorem cz.tr {m m' : Nat} {h h1 h2 : Hp} (x : cz m h h1) (y : cz m' h1 h2) (hm : m ≤ m') : cz m h h2 := by
  refine ⟨fun s => ?_, y.2.trans x.2⟩
  rcases y.1 s with e | ⟨e1, e2⟩
  · rcases x.1 s with f | ⟨f1, f2⟩
    · exact Or.inl (e.trans f)
    · exact Or.inr ⟨f1, e.trans f2⟩
  · exact Or.inr ⟨by omega, e2⟩
section MO
variable {t : TV} {h : Hp} {P : Int → Hp → Prop}
theorem m_make (R : RM t h) (hm : mk t < 600) (k v : Int) (p : ∀ h', gf 1 5 h h' → cz (mk t) h h' → RM (mkS t k v) h' → P (mk t : Int) h') : Cl shM mX9_make [pR 0, pI k, pI v] h P := by
  refine sX9_make_0 ?_
  rw [R.1]
  refine ⟨mk t, rfl, hm, ?_⟩
  have R1 := ((((R.wr (ro := 0) (by decide) (mk t) k).wr (ro := 1) (by decide) (mk t) v).wr (ro := 3) (by decide) (mk t) (-4)).oth (a := 5) (by decide) (mk t) 0)
  have R2 := ((R1.wr (ro := 2) (by decide) (3 * mk t) (-4)).wr (ro := 2) (by decide) (3 * mk t + 1) (-4)).wr (ro := 2) (by decide) (3 * mk t + 2) (-4)
  rw [clr_eq] at R2
  refine sX9_make_37 ⟨fun c => absurd c (by decide), fun _ => ⟨by unfold inR; omega, by unfold inR; omega, ⟨3 * mk t, by omega, by omega, by unfold inR; omega, ?_⟩⟩⟩
  refine sX9_make_37 ⟨fun c => absurd c (by decide), fun _ => ⟨by unfold inR; omega, by unfold inR; omega, ⟨3 * mk t + 1, by omega, by omega, by unfold inR; omega, ?_⟩⟩⟩
  refine sX9_make_37 ⟨fun c => absurd c (by decide), fun _ => ⟨by unfold inR; omega, by unfold inR; omega, ⟨3 * mk t + 2, by omega, by omega, by unfold inR; omega, ?_⟩⟩⟩
  refine sX9_make_37 ⟨fun _ => ?_, fun c => absurd (show (3 : Int) ≤ 0 + 1 + 1 + 1 by decide) c⟩
  have e0 := R2.1
  have e0 : (hA (hA (hA (hA (hA (hA (hA h 1 (mk t) k) 2 (mk t) v) 4 (mk t) (-4)) 5 (mk t) 0) 3 (3 * mk t) (-4)) 3 (3 * mk t + 1) (-4)) 3 (3 * mk t + 2) (-4)).2.1 0 0 = (mk t : Int) := e0
  rw [e0]
  refine ⟨by unfold inR; omega, p _ ((((((((gf.rf.A ⟨by decide, by decide⟩).A ⟨by decide, by decide⟩).A ⟨by decide, by decide⟩).A ⟨by decide, by decide⟩).A ⟨by decide, by decide⟩).A ⟨by decide, by decide⟩).A ⟨by decide, by decide⟩).I) ?_ ⟨?_, ?_, ?_⟩⟩
  · refine ⟨fun s => ?_, rfl⟩
    rw [hI_a]
    simp only [hA_at]
    by_cases e : s = mk t
    · right
      refine ⟨by omega, ?_⟩
      rw [if_neg (by omega), if_neg (by omega), if_neg (by omega), if_pos ⟨trivial, e⟩]
    · left
      rw [if_neg (by omega), if_neg (by omega), if_neg (by omega), if_neg (by omega), if_neg (by omega), if_neg (by omega), if_neg (by omega)]
  · rw [hI_at, if_pos ⟨rfl, rfl⟩]
    show (mk t : Int) + 1 = ((mk t + 1 : Nat) : Int)
    omega
  · rw [hI_at, if_neg (by omega)]
    exact R2.2.1
  · refine mkS_hd R2.2.2 hm ⟨?_, ?_, ?_, fun j hj => ?_⟩
    · show (hA (hA (hA (hA (hA (hA (hA h 1 (mk t) k) 2 (mk t) v) 4 (mk t) (-4)) 5 (mk t) 0) 3 (3 * mk t) (-4)) 3 (3 * mk t + 1) (-4)) 3 (3 * mk t + 2) (-4)).1 1 (mk t) = k
      simp only [hA_at]
      rw [if_neg (by omega), if_neg (by omega), if_neg (by omega), if_neg (by omega), if_neg (by omega), if_neg (by omega), if_pos ⟨trivial, trivial⟩]
    · show (hA (hA (hA (hA (hA (hA (hA h 1 (mk t) k) 2 (mk t) v) 4 (mk t) (-4)) 5 (mk t) 0) 3 (3 * mk t) (-4)) 3 (3 * mk t + 1) (-4)) 3 (3 * mk t + 2) (-4)).1 2 (mk t) = v
      simp only [hA_at]
      rw [if_neg (by omega), if_neg (by omega), if_neg (by omega), if_neg (by omega), if_neg (by omega), if_pos ⟨trivial, trivial⟩]
    · show (hA (hA (hA (hA (hA (hA (hA h 1 (mk t) k) 2 (mk t) v) 4 (mk t) (-4)) 5 (mk t) 0) 3 (3 * mk t) (-4)) 3 (3 * mk t + 1) (-4)) 3 (3 * mk t + 2) (-4)).1 4 (mk t) = -4
      simp only [hA_at]
      rw [if_neg (by omega), if_neg (by omega), if_neg (by omega), if_neg (by omega), if_pos ⟨trivial, trivial⟩]
    · show (hA (hA (hA (hA (hA (hA (hA h 1 (mk t) k) 2 (mk t) v) 4 (mk t) (-4)) 5 (mk t) 0) 3 (3 * mk t) (-4)) 3 (3 * mk t + 1) (-4)) 3 (3 * mk t + 2) (-4)).1 3 j = -4
      simp only [hA_at]
      rcases (by omega : j = 3 * mk t ∨ j = 3 * mk t + 1 ∨ j = 3 * mk t + 2) with e | e | e
      · rw [if_neg (by omega), if_neg (by omega), if_pos ⟨trivial, e⟩]
      · rw [if_neg (by omega), if_pos ⟨trivial, e⟩]
      · rw [if_pos ⟨trivial, e⟩]
theorem m_setPart (R : RM t h) {s k q : Nat} (hs : s < 600) (hk : k < 3) (hq : q < 600) (p : ∀ h', gf 3 4 h h' → RM (lnk t s k q) h' → P 0 h') : Cl shM mX9_setPart [pR 0, pI (s : Int), pI (k : Int), pI (q : Int)] h P :=
  sX9_setPart_0 ⟨by unfold inR; omega, by unfold inR; omega, ⟨3 * s + k, by omega, by omega, ⟨q, rfl, hq, p _ ((gf.rf.A ⟨by decide, by decide⟩).A ⟨by decide, by decide⟩) ((R.wr (ro := 2) (by decide) _ _).wr (ro := 3) (by decide) _ _)⟩⟩⟩
theorem m_goneAlone (R : RM t h) {s : Nat} (hs : s < 600) (p : ∀ h', gf 1 4 h h' → RM (clr t s (-1) 0) h' → P 0 h') : Cl shM mX9_goneAlone [pR 0, pI (s : Int)] h P := by
  have R1 := (R.wr (ro := 0) (by decide) s (-1)).wr (ro := 1) (by decide) s 0
  have R2 := (((R1.wr (ro := 3) (by decide) s (-4)).wr (ro := 2) (by decide) (3 * s) (-4)).wr (ro := 2) (by decide) (3 * s + 1) (-4)).wr (ro := 2) (by decide) (3 * s + 2) (-4)
  rw [clr_eq] at R2
  refine sX9_goneAlone_0 ⟨s, rfl, hs, ?_⟩
  refine sX9_goneAlone_24 ⟨fun c => absurd c (by decide), fun _ => ⟨by unfold inR; omega, by unfold inR; omega, ⟨3 * s, by omega, by omega, by unfold inR; omega, ?_⟩⟩⟩
  refine sX9_goneAlone_24 ⟨fun c => absurd c (by decide), fun _ => ⟨by unfold inR; omega, by unfold inR; omega, ⟨3 * s + 1, by omega, by omega, by unfold inR; omega, ?_⟩⟩⟩
  refine sX9_goneAlone_24 ⟨fun c => absurd c (by decide), fun _ => ⟨by unfold inR; omega, by unfold inR; omega, ⟨3 * s + 2, by omega, by omega, by unfold inR; omega, ?_⟩⟩⟩
  refine sX9_goneAlone_24 ⟨fun _ => ?_, fun c => absurd (show (3 : Int) ≤ 0 + 1 + 1 + 1 by decide) c⟩
  exact p _ ((((((gf.rf.A ⟨by decide, by decide⟩).A ⟨by decide, by decide⟩).A ⟨by decide, by decide⟩).A ⟨by decide, by decide⟩).A ⟨by decide, by decide⟩).A ⟨by decide, by decide⟩) R2
/-- a step other stands where s stood, just as it is linked -/
def puP (t : TV) (s q : Nat) : TV := tw (rpl (tw (if 0 ≤ owL t s (rt t) then tw t 5 (owL t s (rt t)).toNat q else t) 3 q (up t s)) (up t s).toNat (if up t s = -4 then 0 else 3) s q) 3 s (-4)
theorem owL_ge (t : TV) (z : Int) : ∀ n : Nat, owL t z n = -4 ∨ ∃ k : Nat, owL t z n = (k : Int) ∧ k < n ∧ bd t k = z
  | 0 => Or.inl rfl
  | n + 1 => by
    unfold owL
    split
    · rename_i hc
      exact Or.inr ⟨n, rfl, by omega, hc⟩
    · rcases owL_ge t z n with e | ⟨k, e, h1, h2⟩
      · exact Or.inl e
      · exact Or.inr ⟨k, e, by omega, h2⟩
theorem m_puts (R : RM t h) {s q : Nat} (hs : s < mk t) (hq : q < mk t) (hne : s ≠ q) (hu : up t s = -4 ∨ (0 ≤ up t s ∧ up t s < (mk t : Int))) (p : ∀ h', gf 3 7 h h' → h'.1 5 = h.1 5 → h'.1 6 = h.1 6 → RM (puP t s q) h' → P 0 h') : Cl shM mX9_puts [pR 0, pI (s : Int), pI (q : Int)] h P := by
  have hm := R.m
  refine sX9_puts_0 (m_bodyOf R _ ⟨s, rfl, by omega, ?_⟩)
  rw [R.u hs]
  have key : ∀ (h1 : Hp) (t1 : TV), t1.2 = t.2 → RM t1 h1 → gf 3 7 h h1 → h1.1 5 = h.1 5 → h1.1 6 = h.1 6 → puP t s q = tw (rpl t1 (up t s).toNat (if up t s = -4 then 0 else 3) s q) 3 s (-4) → Ok shM 0 0 mX9_puts 38 [some (pR 0), some (pI (s : Int)), some (pI (q : Int)), none, some (pI (up t s)), some (pI 0)] [] h1 P := by
    intro h1 t1 e2 R1 x1 x5 x6 he
    have em : mk t1 = mk t := by unfold mk; rw [e2]
    rw [he] at p
    by_cases c : up t s = -4
    · rw [if_pos c, rpl_0] at p
      exact sX9_puts_38 ⟨fun q => absurd q (by decide), fun _ => ⟨fun _ => ⟨s, rfl, by omega, p _ (x1.A ⟨by decide, by decide⟩) x5 x6 (R1.wr (ro := 3) (by decide) _ _)⟩, fun z => absurd c z⟩⟩
    · rw [if_neg c] at p
      have hu := hu.resolve_left c
      obtain ⟨a, ha⟩ := Int.eq_ofNat_of_zero_le hu.1
      rw [ha, Int.toNat_natCast] at p
      rw [ha]
      have key2 : ∀ (n i : Nat) (h2 : Hp), i + n = 3 → gf 3 7 h h2 → h2.1 5 = h.1 5 → h2.1 6 = h.1 6 → RM (rpl t1 a i s q) h2 → Ok shM 0 0 mX9_puts 38 [some (pR 0), some (pI (s : Int)), some (pI (q : Int)), none, some (pI (a : Int)), some (pI (i : Int))] [] h2 P := by
        intro n
        induction n with
        | zero =>
          intro i h2 hi x y5 y6 R2
          have e : i = 3 := hi
          subst e
          exact sX9_puts_38 ⟨fun _ => ⟨s, rfl, by omega, p _ (x.A ⟨by decide, by decide⟩) y5 y6 (R2.wr (ro := 3) (by decide) _ _)⟩, fun c => absurd (Int.le_refl 3) c⟩
        | succ n ih =>
          intro i h2 hi x y5 y6 R2
          have hst := rpl_step t1 a i (by omega) s q
          have hpt := rpl_pt t1 a i s q (by omega)
          have e : h2.1 3 (3 * a + i) = t1.1 2 (3 * a + i) := by
            have := R2.p (s := a) (k := i) (show a < mk t1 by omega) (by omega)
            rw [this]
            exact hpt
          refine sX9_puts_38 ⟨fun c => absurd c (by omega), fun _ => ⟨fun c => absurd c (by omega), fun _ => ⟨by unfold inR; omega, by unfold inR; omega, ⟨3 * a + i, by omega, by omega, ?_⟩⟩⟩⟩
          rw [e]
          refine ⟨fun c => ⟨by unfold inR; omega, ?_⟩, fun c => ⟨by unfold inR; omega, ?_⟩⟩
          · rw [if_neg c] at hst
            exact ih (i + 1) _ (by omega) (x.A ⟨by decide, by decide⟩) (by rw [← y5]; rfl) (by rw [← y6]; rfl) (by rw [hst]; exact R2.same (ro := 2) (by decide) hpt)
          · rw [if_pos c] at hst
            exact ih (i + 1) _ (by omega) (x.A ⟨by decide, by decide⟩) (by rw [← y5]; rfl) (by rw [← y6]; rfl) (by rw [hst]; exact R2.wr (ro := 2) (by decide) _ _)
      exact key2 3 0 h1 rfl x1 x5 x6 (by rw [rpl_0]; exact R1)
  refine ⟨fun c => ⟨q, rfl, by omega, ?_⟩, fun c => ?_⟩
  · refine key _ (tw t 3 q (up t s)) rfl (R.wr (ro := 3) (by decide) _ _) (gf.rf.A ⟨by decide, by decide⟩) rfl rfl ?_
    unfold puP
    rw [if_neg (by omega)]
  · rcases owL_ge t s (rt t) with e | ⟨k, e, h1, -⟩
    · exact absurd e c
    · rw [e]
      refine ⟨k, rfl, by omega, ⟨q, rfl, by omega, ?_⟩⟩
      refine key _ (tw (tw t 5 k q) 3 q (up t s)) rfl ((R.wr (ro := 5) (by decide) _ _).wr (ro := 3) (by decide) _ _) ((gf.rf.A ⟨by decide, by decide⟩).A ⟨by decide, by decide⟩) rfl rfl ?_
      unfold puP
      rw [e, if_pos (by omega)]
      rfl
end MO
