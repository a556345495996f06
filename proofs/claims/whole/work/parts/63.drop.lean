/-! DROP: what is reached from routine 0 -/
section DR
variable {t : TV}
def crL (t : TV) (D : List (Nat × Nat)) (m : Nat) : Nat := D.foldl (fun a q => if kd t q.1 = 6 then a ||| 2 ^ (nm t q.1).toNat else a) m
theorem crL_snoc (t : TV) (D : List (Nat × Nat)) (q : Nat × Nat) (m : Nat) : crL t (D ++ [q]) m = if kd t q.1 = 6 then crL t D m ||| 2 ^ (nm t q.1).toNat else crL t D m := by simp [crL]
theorem crL_cons (t : TV) (D : List (Nat × Nat)) (q : Nat × Nat) (m : Nat) : crL t (q :: D) m = crL t D (if kd t q.1 = 6 then m ||| 2 ^ (nm t q.1).toNat else m) := rfl
theorem crL_ge (t : TV) : ∀ (D : List (Nat × Nat)) (m : Nat), sb m (crL t D m)
  | [], m => sb.rf
  | q :: D, m => by
    rw [crL_cons]
    refine sb.tr ?_ (crL_ge t D _)
    split
    · exact sb.or
    · exact sb.rf
theorem crL_has (t : TV) : ∀ (D : List (Nat × Nat)) (m : Nat) (q : Nat × Nat), q ∈ D → kd t q.1 = 6 → (crL t D m).testBit (nm t q.1).toNat = true
  | x :: D, m, q, hq, hk => by
    rw [crL_cons]
    rcases List.mem_cons.mp hq with e | e
    · rw [← e, if_pos hk]
      refine crL_ge t D _ _ ?_
      rw [Nat.testBit_or, tb_pow, decide_eq_true rfl, Bool.or_true]
    · exact crL_has t D _ q e hk
theorem crL_sub (t : TV) : ∀ (D : List (Nat × Nat)) (m M : Nat), sb m M → (∀ q ∈ D, kd t q.1 = 6 → M.testBit (nm t q.1).toNat = true) → sb (crL t D m) M
  | [], m, M, h, _ => h
  | q :: D, m, M, h, hq => by
    rw [crL_cons]
    refine crL_sub t D _ M ?_ (fun x hx => hq x (List.mem_cons_of_mem _ hx))
    split
    · rename_i hk
      refine sb.or2 h (fun i hi => ?_)
      rw [tb_pow, decide_eq_true_eq] at hi
      rw [← hi]
      exact hq q List.mem_cons_self hk
    · exact h
theorem crL_lt {D : List (Nat × Nat)} (hD : ∀ q ∈ D, kd t q.1 = 6 → (nm t q.1).toNat < 10) : ∀ m, m < 2 ^ 10 → crL t D m < 2 ^ 10 := by
  induction D with
  | nil => exact fun m h => h
  | cons q D ih =>
    intro m h
    rw [crL_cons]
    refine ih (fun x hx => hD x (List.mem_cons_of_mem _ hx)) _ ?_
    split
    · rename_i hk
      exact Nat.or_lt_two_pow h (Nat.pow_lt_pow_right (by decide) (hD q List.mem_cons_self hk))
    · exact h
theorem bdy_nm (w : WF t) (z : Int) : ∀ q ∈ plist t z, kd t q.1 = 6 → (nm t q.1).toNat < 10 := fun q hq hk => by
  have h1 := plist_at w hq
  have h2 := (w.nmr h1.1 h1.2).2 hk
  have h3 := w.2.1
  omega
/-- what those of a mask call, routines below n -/
def cbN (t : TV) (c : Nat) : Nat → Nat
  | 0 => 0
  | n + 1 => if c.testBit n then crL t (plist t (bdI t n)) (cbN t c n) else cbN t c n
theorem cbN_lt (w : WF t) (c : Nat) : ∀ n, cbN t c n < 2 ^ 10
  | 0 => by show 0 < 2 ^ 10; decide
  | n + 1 => by
    rw [cbN]
    split
    · exact crL_lt (bdy_nm w _) _ (cbN_lt w c n)
    · exact cbN_lt w c n
def cb (t : TV) (c : Nat) : Nat := cbN t c (rt t)
/-- closed: what is called from it is in it -/
def cls (t : TV) (c m : Nat) : Prop := ∀ r, r < rt t → c.testBit r = true → ∀ q ∈ plist t (bdI t r), kd t q.1 = 6 → m.testBit (nm t q.1).toNat = true
def leastM (t : TV) (m : Nat) : Prop := m < 2 ^ 10 ∧ m.testBit 0 = true ∧ cls t m m ∧ ∀ M, M.testBit 0 = true → cls t M M → sb m M
theorem least_uniq {m m' : Nat} (a : leastM t m) (b : leastM t m') : m = m' := (a.2.2.2 m' b.2.1 b.2.2.1).eq (b.2.2.2 m a.2.1 a.2.2.1)
theorem cb_cls (t : TV) (c : Nat) : cls t c (cb t c) := by
  have key : ∀ n r, r < n → c.testBit r = true → ∀ q ∈ plist t (bdI t r), kd t q.1 = 6 → (cbN t c n).testBit (nm t q.1).toNat = true := by
    intro n
    induction n with
    | zero => exact fun r h => by omega
    | succ n ih =>
      intro r hr hc q hq hk
      rw [cbN]
      by_cases e : r = n
      · subst e
        rw [if_pos hc]
        exact crL_has t _ _ q hq hk
      · have := ih r (by omega) hc q hq hk
        split
        · exact crL_ge t _ _ _ this
        · exact this
  exact key (rt t)
theorem cb_sub {c M : Nat} (h : cls t c M) : sb (cb t c) M := by
  have key : ∀ n, n ≤ rt t → sb (cbN t c n) M := by
    intro n
    induction n with
    | zero => exact fun _ i hi => by rw [show cbN t c 0 = 0 from rfl, Nat.zero_testBit] at hi; cases hi
    | succ n ih =>
      intro hn
      rw [cbN]
      split
      · rename_i hc
        exact crL_sub t _ _ M (ih (by omega)) (h n (by omega) hc)
      · exact ih (by omega)
  exact key (rt t) (Nat.le_refl _)
theorem cls_mono {a b m : Nat} (h : cls t b m) (x : sb a b) : cls t a m := fun r hr hc => h r hr (x r hc)
/-- the class's way: masks a (reached), b (known) -/
def lpM (t : TV) : Nat → Nat → Nat → Nat
  | 0, a, _ => a
  | n + 1, a, b => if a = b then a else lpM t n (a ||| cb t a) a
def goodM (t : TV) (i a b : Nat) : Prop := a < 2 ^ 10 ∧ b < 2 ^ 10 ∧ a.testBit 0 = true ∧ sb b a ∧ cls t b a ∧ (∀ M, M.testBit 0 = true → cls t M M → sb a M) ∧ (a = b ∨ i + 1 ≤ cnt a.testBit 10)
theorem good_0 : goodM t 0 1 0 := by
  refine ⟨by decide, by decide, by decide, (fun i hi => by rw [Nat.zero_testBit] at hi; cases hi), (fun r _ hc => by rw [Nat.zero_testBit] at hc; cases hc), fun M h0 _ i hi => ?_, Or.inr (by decide +kernel)⟩
  have : (2 ^ 0).testBit i = true := hi
  rw [tb_pow, decide_eq_true_eq] at this
  rw [← this]
  exact h0
theorem good_s (w : WF t) {i a b : Nat} (g : goodM t i a b) (hne : a ≠ b) : goodM t (i + 1) (a ||| cb t a) a := by
  obtain ⟨g1, g2, g3, g4, g5, g6, g7⟩ := g
  refine ⟨Nat.or_lt_two_pow g1 (cbN_lt w a _), g1, sb.or 0 g3, sb.or, fun r hr hc q hq hk => ?_, fun M h0 hM => sb.or2 (g6 M h0 hM) (cb_sub (cls_mono hM (g6 M h0 hM))), ?_⟩
  · rw [Nat.testBit_or, cb_cls t a r hr hc q hq hk, Bool.or_true]
  · by_cases c : a ||| cb t a = a
    · exact Or.inl c
    · have h1 := g7.resolve_left hne
      have h2 := (sb.or (a := a) (b := cb t a)).cnt (Nat.or_lt_two_pow g1 (cbN_lt w a _)) (fun e => c e.symm)
      exact Or.inr (by omega)
theorem good_e {a b : Nat} (g : goodM t 10 a b) : a = b := by
  rcases g.2.2.2.2.2.2 with e | e
  · exact e
  · have := cnt_le a.testBit 10
    omega
theorem good_least {i a : Nat} (g : goodM t i a a) : leastM t a := ⟨g.1, g.2.2.1, g.2.2.2.2.1, g.2.2.2.2.2.1⟩
theorem lp_least (w : WF t) : ∀ (n i a b : Nat), i + n = 10 → goodM t i a b → leastM t (lpM t n a b)
  | 0, i, a, b, hi, g => by
    have e : i = 10 := hi
    subst e
    have e := good_e g
    subst e
    exact good_least g
  | n + 1, i, a, b, hi, g => by
    rw [lpM]
    split
    · rename_i e
      subst e
      exact good_least g
    · rename_i e
      exact lp_least w n (i + 1) _ _ (by omega) (good_s w g e)
def rchM (t : TV) : Nat := lpM t 10 1 0
theorem rch_least (w : WF t) : leastM t (rchM t) := lp_least w 10 0 1 0 rfl good_0
/-- bodies of what isn't reached are taken, routines below n -/
def drN (t : TV) (m : Nat) : Nat → TV
  | 0 => t
  | n + 1 => if m.testBit n = false ∧ bd t n ≠ -4 then tw (drN t m n) 5 n (-4) else drN t m n
def drC (t : TV) (m n : Nat) : Nat := cnt (fun r => decide (m.testBit r = false ∧ bd t r ≠ -4)) n
theorem drN_2 (t : TV) (m : Nat) : ∀ n, (drN t m n).2 = t.2
  | 0 => rfl
  | n + 1 => by
    rw [drN]
    split
    · exact drN_2 t m n
    · exact drN_2 t m n
theorem drN_b (t : TV) (m : Nat) : ∀ n r, n ≤ r → bd (drN t m n) r = bd t r
  | 0, _, _ => rfl
  | n + 1, r, h => by
    rw [drN]
    split
    · show (tw (drN t m n) 5 n (-4)).1 5 r = _
      rw [tw_at, if_neg (by omega)]
      exact drN_b t m n r (by omega)
    · exact drN_b t m n r (by omega)
theorem drN_p (t : TV) (m : Nat) : ∀ n r, pr (drN t m n) r = pr t r
  | 0, _ => rfl
  | n + 1, r => by
    rw [drN]
    split
    · show (tw (drN t m n) 5 n (-4)).1 4 r = _
      rw [tw_at, if_neg (by omega)]
      exact drN_p t m n r
    · exact drN_p t m n r
theorem drN_wf (w : WF t) (m : Nat) : ∀ n, WF (drN t m n)
  | 0 => w
  | n + 1 => by
    rw [drN]
    split
    · exact wf_bd (drN_wf w m n) (Or.inl rfl)
    · exact drN_wf w m n
theorem drC_s (t : TV) (m n : Nat) : drC t m (n + 1) = if m.testBit n = false ∧ bd t n ≠ -4 then drC t m n + 1 else drC t m n := by
  unfold drC
  rw [cnt_s]
  by_cases c : m.testBit n = false ∧ bd t n ≠ -4
  · rw [if_pos c, if_pos (decide_eq_true c)]
  · rw [if_neg c, if_neg (by rw [decide_eq_false c]; decide)]
    rfl
end DR
