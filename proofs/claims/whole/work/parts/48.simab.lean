/-! BOTH SIDES: about, but for the calls of a routine -/
section SAb
variable {st : St}
/-- what about answers (5: see below) -/
def aboutR (t : TV) (r k five : Int) : Int :=
  if k = 0 then prI t r else if k = 1 then bdI t r else if k = 2 then ((plist t (bdI t r)).length : Int) else if k = 3 then uses t r else if k = 4 then (caL t (plist t (bdI t r)) : Int) else if k = 5 then five else -1
theorem caR_any (t : TV) : ∀ D : List (Nat × Nat), caR t (-1) D = caL t D := by
  intro D
  unfold caR caL
  congr 1
  funext a q
  by_cases h : kd t q.1 = 6
  · rw [if_pos h, if_pos ⟨h, Or.inl (by decide)⟩]
  · rw [if_neg h, if_neg (fun z => h z.1)]
theorem plist_no (t : TV) : plist t (-4) = [] := by
  unfold plist
  rw [if_neg (fun z => absurd z.1 (by decide))]
theorem WF.bdA {t : TV} (w : WF t) {r : Nat} (hr : r < rt t) (hb : bd t r ≠ -4) : al t (bd t r) := ((w.2.2.1 r hr).2.2.resolve_left hb).1
theorem bdI_at {t : TV} {r : Nat} (h : r < rt t) : bdI t (r : Int) = bd t r := by
  unfold bdI
  rw [if_pos (by omega)]
  rfl
theorem prI_at {t : TV} {r : Nat} (h : r < rt t) : prI t (r : Int) = pr t r := by
  unfold prI
  rw [if_pos (by omega)]
  rfl
theorem c_about {h : Hp} (R : RelC st h) (w : WS st) {r : Nat} (hr : r < rt (sT st)) (k : Int) : Cl shC mX8_about [pR 0, pI (r : Int), pI k] h (fun q h' => q = aboutR (sT st) r k (cnt (fun s => decide (nm (sT st) s = (r : Int) ∧ cib (sT st) s)) (mk (sT st)) : Int) ∧ RelC st h') := by
  unfold aboutR
  refine sX8_about_0 (c_isRoutine R.1 r ⟨fun _ => ⟨fun e => c_paramsOf R.1 r ⟨?_, R⟩, fun e => c_bodyOf R.1 r ⟨?_, R⟩, fun e => c_bodyOf R.1 r (c_sizeOf w.1 R.1 _ (fun h' f => ⟨?_, R.rd f ⟨by decide, by decide⟩⟩)), fun e => c_usesOf w.1 R.1 r (fun h' f => ⟨?_, R.rd f ⟨by decide, by decide⟩⟩), fun e => c_callsIn w.1 R.1 r (fun h' f => ⟨?_, R.rd f ⟨by decide, by decide⟩⟩), fun e => c_callsOf R.1 r ⟨?_, R⟩, fun e => ⟨?_, R⟩⟩, fun q => absurd (show 0 ≤ (r : Int) ∧ (r : Int) < (rt (sT st) : Int) by omega) (b2_0.mp q)⟩)
  · rw [if_pos e]
  · rw [if_neg (by omega), if_pos e]
  · rw [if_neg (by omega), if_neg (by omega), if_pos e]
  · rw [if_neg (by omega), if_neg (by omega), if_neg (by omega), if_pos e]
  · rw [if_neg (by omega), if_neg (by omega), if_neg (by omega), if_neg (by omega), if_pos e]
  · rw [if_neg (by omega), if_neg (by omega), if_neg (by omega), if_neg (by omega), if_neg (by omega), if_pos e]
  · rw [if_neg (by omega), if_neg (by omega), if_neg (by omega), if_neg (by omega), if_neg (by omega), if_neg (by omega)]
/-- calls of r in the bodies below n -/
def caS (t : TV) (r : Int) : Nat → Nat
  | 0 => 0
  | n + 1 => caS t r n + (if bd t n = -4 then 0 else caR t r (plist t (bd t n)))
theorem caS_le {t : TV} (w : WF t) (r : Int) : ∀ n, n ≤ rt t → caS t r n ≤ 600 * n
  | 0, _ => Nat.le_refl _
  | n + 1, h => by
    have h1 := caS_le w r n (by omega)
    have h2 := caR_le t r (plist t (bd t n))
    have h3 := plist_len (t := t) (z := bd t n) w.trr
    have h4 := w.m
    show caS t r n + _ ≤ _
    split <;> omega
theorem m_about {g : Hp} (M : RelM st g) (w : WS st) {r : Nat} (hr : r < rt (sT st)) (k : Int) : Cl shM mX9_about [pR 0, pI (r : Int), pI k] g (fun q g' => q = aboutR (sT st) r k (caS (sT st) r (rt (sT st)) : Int) ∧ RelM st g') := by
  have hm := w.1.m
  have l126 : k = 5 → ∀ (d i : Nat) (g1 : Hp), i + d = rt (sT st) → RelM st g1 → Ok shM 0 0 mX9_about 126 [some (pR 0), some (pI (r : Int)), none, some (pI (caS (sT st) r i : Int)), some (pI (i : Int))] [] g1 (fun q g' => q = aboutR (sT st) r k (caS (sT st) r (rt (sT st)) : Int) ∧ RelM st g') := by
    intro e5 d
    induction d with
    | zero =>
      intro i g1 hi M1
      have e : i = rt (sT st) := hi
      subst e
      refine sX9_about_126 ?_
      rw [M1.1.2.1]
      refine ⟨fun _ => ⟨?_, M1⟩, fun c => absurd (Int.le_refl _) c⟩
      unfold aboutR
      rw [if_neg (by omega), if_neg (by omega), if_neg (by omega), if_neg (by omega), if_neg (by omega), if_pos e5]
    | succ d ih =>
      intro i g1 hi M1
      have hle := caS_le w.1 r i (by omega)
      have h2 := caR_le (sT st) r (plist (sT st) (bd (sT st) i))
      have h3 := plist_len (t := sT st) (z := bd (sT st) i) w.1.trr
      have es : caS (sT st) r (i + 1) = caS (sT st) r i + (if bd (sT st) i = -4 then 0 else caR (sT st) r (plist (sT st) (bd (sT st) i))) := rfl
      refine sX9_about_126 ?_
      rw [M1.1.2.1]
      refine ⟨fun c => absurd c (by omega), fun _ => ⟨i, rfl, by omega, ?_⟩⟩
      rw [M1.1.b (by omega)]
      refine ⟨fun c => m_callsIn w.1 M1.1 (w.1.bdA (by omega) c) r (fun g2 f => ⟨by unfold inR; omega, by unfold inR; omega, ?_⟩), fun c => ⟨by unfold inR; omega, by unfold inR; omega, ?_⟩⟩
      · have := ih (i + 1) g2 (by omega) (M1.rd f ⟨by decide, by decide⟩)
        rw [es, if_neg c] at this
        exact this
      · have := ih (i + 1) g1 (by omega) M1
        rw [es, if_pos c] at this
        exact this
  have eb : bdI (sT st) (r : Int) = bd (sT st) r := bdI_at hr
  refine sX9_about_0 (m_isRoutine M.1 r ⟨fun _ => ⟨fun e => ⟨r, rfl, by omega, ?_, M⟩, fun e => ⟨r, rfl, by omega, ?_, M⟩, fun e => ⟨r, rfl, by omega, ?_⟩, fun e => m_uses w.1 M.1 (by omega) (fun g' f => ⟨?_, M.rd f ⟨by decide, by decide⟩⟩), fun e => ⟨r, rfl, by omega, ?_⟩, fun e => l126 e (rt (sT st)) 0 g (by omega) M, fun e => ⟨?_, M⟩⟩, fun q => absurd (show 0 ≤ (r : Int) ∧ (r : Int) < (rt (sT st) : Int) by omega) (b2_0.mp q)⟩)
  · unfold aboutR
    rw [if_pos e, prI_at hr]
    exact M.1.q hr
  · unfold aboutR
    rw [if_neg (by omega), if_pos e, eb]
    exact M.1.b hr
  · rw [M.1.b hr]
    unfold aboutR
    rw [if_neg (by omega), if_neg (by omega), if_pos e, eb]
    refine ⟨fun c => m_goes' w.1 M.1 (w.1.bdA hr c) (fun g' f _ _ => ⟨rfl, M.rd f ⟨by decide, by decide⟩⟩), fun c => ⟨?_, M⟩⟩
    rw [c, plist_no]
    rfl
  · unfold aboutR
    rw [if_neg (by omega), if_neg (by omega), if_neg (by omega), if_pos e]
  · rw [M.1.b hr]
    unfold aboutR
    rw [if_neg (by omega), if_neg (by omega), if_neg (by omega), if_neg (by omega), if_pos e, eb]
    refine ⟨fun c => m_callsIn w.1 M.1 (w.1.bdA hr c) (-1) (fun g' f => ⟨?_, M.rd f ⟨by decide, by decide⟩⟩), fun c => ⟨?_, M⟩⟩
    · rw [caR_any]
    · rw [c, plist_no]
      rfl
  · unfold aboutR
    rw [if_neg (by omega), if_neg (by omega), if_neg (by omega), if_neg (by omega), if_neg (by omega), if_neg (by omega)]
end SAb
