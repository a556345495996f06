/-! WELL-FORMED STATES: heights; telling a step keeps them -/
theorem pre_sh {t : TV} : ∀ (n d e s : Nat), pre t n (d + e) s = (pre t n d s).map (fun q => (q.1, q.2 + e))
  | 0, _, _, _ => rfl
  | n + 1, d, e, s => by
    show (s, d + e) :: (ch t s).flatMap (pre t n (d + e + 1)) = ((s, d) :: (ch t s).flatMap (pre t n (d + 1))).map _
    rw [List.map_cons, List.map_flatMap]
    congr 1
    exact fm_congr (fun c _ => by rw [show d + e + 1 = d + 1 + e by omega]; exact pre_sh n (d + 1) e c)
theorem hiL_ge {D : List (Nat × Nat)} {q : Nat × Nat} (h : q ∈ D) : q.2 ≤ hiL D := by
  have key : ∀ (D : List (Nat × Nat)) (a : Nat), a ≤ D.foldl (fun a q => max a q.2) a ∧ ∀ q ∈ D, q.2 ≤ D.foldl (fun a q => max a q.2) a := by
    intro D
    induction D with
    | nil => exact fun a => ⟨Nat.le_refl _, fun q hq => by cases hq⟩
    | cons x D ih =>
      intro a
      obtain ⟨h1, h2⟩ := ih (max a x.2)
      refine ⟨Nat.le_trans (Nat.le_max_left _ _) h1, fun q hq => ?_⟩
      rcases List.mem_cons.mp hq with rfl | hq
      · exact Nat.le_trans (Nat.le_max_right _ _) h1
      · exact h2 q hq
  exact (key D 0).2 q h
/-- how high a tree is -/
def rk (t : TV) (s : Nat) : Nat := hiL (plist t (s : Int))
section WFs
variable {t t' : TV}
theorem al_n {s : Nat} : al t (s : Int) ↔ s < mk t ∧ kd t s ≠ -1 := by
  constructor
  · rintro ⟨h1, h2, h3⟩
    exact ⟨by omega, h3⟩
  · rintro ⟨h1, h2⟩
    exact ⟨by omega, by omega, h2⟩
theorem WF.tr' (w : WF t) {s : Nat} (hs : s < mk t) (hk : kd t s ≠ -1) : tr t 40 s := w.2.2.2.2.2.2.1 s hs hk
theorem rk_eq (w : WF t) {s : Nat} (hs : s < mk t) (hk : kd t s ≠ -1) : rk t s = hiL (pre t 40 1 s) := by
  unfold rk plist
  rw [if_pos (al_n.mpr ⟨hs, hk⟩)]
  rfl
theorem rk_pos (w : WF t) {s : Nat} (hs : s < mk t) (hk : kd t s ≠ -1) : 1 ≤ rk t s ∧ rk t s ≤ 40 := by
  refine ⟨?_, hi_40 w _⟩
  rw [rk_eq w hs hk]
  exact hiL_ge (q := (s, 1)) (mem_pre.mpr (Or.inl rfl))
theorem ch_al (w : WF t) {s c : Nat} (hs : s < mk t) (hk : kd t s ≠ -1) (hc : c ∈ ch t s) : c < mk t ∧ kd t c ≠ -1 := tr_at (tr_ch (w.tr' hs hk) hc)
theorem rk_ch (w : WF t) {s c : Nat} (hs : s < mk t) (hk : kd t s ≠ -1) (hc : c ∈ ch t s) : rk t c < rk t s := by
  have hcc := ch_al w hs hk hc
  rw [rk_eq w hs hk, rk_eq w hcc.1 hcc.2]
  have h39 : tr t 39 c := tr_ch (w.tr' hs hk) hc
  have e1 : pre t 40 1 c = pre t 39 1 c := pre_stab h39 (by decide)
  have hb : hiL (pre t 39 1 c) ≤ hiL (pre t 40 1 s) - 1 := by
    refine hiL_le (fun q hq => ?_)
    have hq2 : (q.1, q.2 + 1) ∈ pre t 40 1 s := by
      refine mem_pre.mpr (Or.inr ⟨c, hc, ?_⟩)
      rw [pre_sh 39 1 1 c]
      exact List.mem_map.mpr ⟨q, hq, rfl⟩
    have := hiL_ge hq2
    show q.2 ≤ _
    omega
  have hp := (rk_pos w hs hk).1
  rw [rk_eq w hs hk] at hp
  rw [e1]
  omega
/-- links that are kept one step long -/
def lk (t : TV) (s : Nat) : Prop := ∀ k, k < 3 → pt t s k < 0 ∨ (pt t s k < (mk t : Int) ∧ up t (pt t s k).toNat = (s : Int) ∧ ∀ j, j < 3 → j ≠ k → pt t s j ≠ pt t s k)
theorem tr_rank {ρ : Nat → Nat} (h : ∀ s, s < mk t → kd t s ≠ -1 → lk t s ∧ 1 ≤ ρ s ∧ ∀ c ∈ ch t s, c < mk t ∧ kd t c ≠ -1 ∧ ρ c < ρ s) : ∀ (n s : Nat), s < mk t → kd t s ≠ -1 → ρ s ≤ n → tr t n s
  | 0, s, h1, h2, h3 => absurd (h s h1 h2).2.1 (by omega)
  | n + 1, s, h1, h2, h3 => by
    obtain ⟨a, b, c⟩ := h s h1 h2
    exact ⟨h1, h2, a, fun x hx => tr_rank h n x (c x hx).1 (c x hx).2.1 (by have := (c x hx).2.2; omega)⟩
theorem WF.lk (w : WF t) {s : Nat} (hs : s < mk t) (hk : kd t s ≠ -1) : lk t s := (w.tr' hs hk : tr t (39 + 1) s).2.2.1
/-- a tree no higher than m -/
theorem rk_le (w : WF t) {s m : Nat} (hs : s < mk t) (hk : kd t s ≠ -1) (h : ∀ c ∈ ch t s, rk t c ≤ m) : rk t s ≤ m + 1 := by
  rw [rk_eq w hs hk]
  refine hiL_le (fun q hq => ?_)
  rcases mem_pre.mp hq with rfl | ⟨c, hc, hq⟩
  · show 1 ≤ m + 1
    omega
  · rw [pre_sh 39 1 1 c] at hq
    obtain ⟨x, hx, rfl⟩ := List.mem_map.mp hq
    have hcc := ch_al w hs hk hc
    have h1 := h c hc
    have e1 : pre t 40 1 c = pre t 39 1 c := pre_stab (show tr t 39 c from tr_ch (w.tr' hs hk) hc) (by decide)
    rw [rk_eq w hcc.1 hcc.2, e1] at h1
    have h2 := hiL_ge hx
    show x.2 + 1 ≤ m + 1
    omega
theorem tg_at (t : TV) (s : Nat) (g : Nat → Int) : ∀ (n r j : Nat), n ≤ 3 → (tg t s g n).1 r j = if r = 3 ∧ ∃ i, i < n ∧ j = (g i).toNat then (s : Int) else if r = 2 ∧ 3 * s ≤ j ∧ j < 3 * s + n then ((g (j - 3 * s)).toNat : Int) else t.1 r j
  | 0, r, j, _ => by
    show t.1 r j = _
    rw [if_neg (by rintro ⟨_, i, h, _⟩; omega), if_neg (by omega)]
  | n + 1, r, j, hn => by
    show (lnk (tg t s g n) s n (g n).toNat).1 r j = _
    rw [lnk_at, tg_at t s g n r j (by omega)]
    by_cases h3 : r = 3
    · subst h3
      by_cases hj : ∃ i, i < n + 1 ∧ j = (g i).toNat
      · rw [if_pos (c := (3 : Nat) = 3 ∧ ∃ i, i < n + 1 ∧ j = (g i).toNat) ⟨rfl, hj⟩]
        by_cases hjn : j = (g n).toNat
        · rw [if_pos ⟨rfl, hjn⟩]
        · rw [if_neg (fun q => hjn q.2), if_neg (by omega), if_pos]
          obtain ⟨i, h1, h2⟩ := hj
          exact ⟨rfl, i, by rcases Nat.lt_succ_iff_lt_or_eq.mp h1 with h | rfl; exact h; exact absurd h2 hjn, h2⟩
      · rw [if_neg (c := (3 : Nat) = 3 ∧ ∃ i, i < n + 1 ∧ j = (g i).toNat) (fun q => hj q.2), if_neg (fun q => hj ⟨n, by omega, q.2⟩), if_neg (by omega), if_neg (fun q => hj (by obtain ⟨_, i, h1, h2⟩ := q; exact ⟨i, by omega, h2⟩)), if_neg (by omega), if_neg (by omega)]
    · by_cases h2 : r = 2
      · subst h2
        simp only [show ¬ (2 : Nat) = 3 by decide, false_and, if_false, true_and]
        by_cases hj : j = 3 * s + n
        · rw [if_pos hj, if_pos ⟨by omega, by omega⟩]
          subst hj
          rw [Nat.add_sub_cancel_left]
        · rw [if_neg hj]
          by_cases h4 : 3 * s ≤ j ∧ j < 3 * s + n
          · rw [if_pos h4, if_pos ⟨by omega, by omega⟩]
          · rw [if_neg h4, if_neg (fun q => h4 (by omega))]
      · rw [if_neg (fun q => h3 q.1), if_neg (fun q => h2 q.1), if_neg (fun q => h3 q.1), if_neg (fun q => h2 q.1), if_neg (fun q => h3 q.1), if_neg (fun q => h2 q.1)]
end WFs
