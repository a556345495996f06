/-! MELT: the state that comes of it is well-formed -/
section ME8
variable {t : TV} {c : Nat}
def dp (t : TV) (s : Nat) : Nat := above t 41 (s : Int)
theorem above_4 (t : TV) : ∀ n, above t n (-4) = 0
  | 0 => rfl
  | n + 1 => by
    show (if (-4 : Int) = -4 then 0 else above t n (upI t (-4)) + 1) = 0
    rw [if_pos rfl]
theorem ab_s (t : TV) (n a : Nat) : above t (n + 1) (a : Int) = above t n (upI t (a : Int)) + 1 := by
  show (if (a : Int) = -4 then 0 else above t n (upI t (a : Int)) + 1) = _
  rw [if_neg (by omega)]
theorem ab_stab (w : WF t) : ∀ (r a n m : Nat), 41 - rk t a ≤ r → a < mk t → kd t a ≠ -1 → 41 - rk t a ≤ n → 41 - rk t a ≤ m → above t n (a : Int) = above t m (a : Int) ∧ above t n (a : Int) + rk t a ≤ 41 := by
  intro r
  induction r with
  | zero =>
    intro a n m h1 h2 h3
    have := rk_pos w h2 h3
    omega
  | succ r ih =>
    intro a n m h1 h2 h3 h4 h5
    have hr := rk_pos w h2 h3
    obtain ⟨n', rfl⟩ : ∃ n', n = n' + 1 := ⟨n - 1, by omega⟩
    obtain ⟨m', rfl⟩ : ∃ m', m = m' + 1 := ⟨m - 1, by omega⟩
    rw [ab_s, ab_s]
    rcases up_al w (al_n.mpr ⟨h2, h3⟩) with q | ⟨q1, q2⟩
    · rw [q, above_4, above_4]
      exact ⟨rfl, by omega⟩
    · obtain ⟨b, hb⟩ := Int.eq_ofNat_of_zero_le q1.1
      rw [hb, Int.toNat_natCast, Int.toNat_natCast] at q2
      rw [hb] at q1 ⊢
      obtain ⟨b1, b2⟩ := al_n.mp q1
      have hlt := rk_ch w b1 b2 q2
      obtain ⟨e1, e2⟩ := ih b n' m' (by omega) b1 b2 (by omega) (by omega)
      rw [e1]
      rw [e1] at e2
      exact ⟨rfl, by omega⟩
theorem dp_rk (w : WF t) {a : Nat} (h2 : a < mk t) (h3 : kd t a ≠ -1) : dp t a + rk t a ≤ 41 ∧ 1 ≤ dp t a := by
  have hr := rk_pos w h2 h3
  refine ⟨(ab_stab w 41 a 41 41 (by omega) h2 h3 (by omega) (by omega)).2, ?_⟩
  unfold dp
  rw [ab_s]
  omega
theorem dp_ch (w : WF t) {a b : Nat} (h2 : b < mk t) (h3 : kd t b ≠ -1) (hc : a ∈ ch t b) : dp t a = dp t b + 1 := by
  have ha := ch_al w h2 h3 hc
  have hu := tr_up (w.tr' h2 h3) hc
  have hr := rk_pos w h2 h3
  unfold dp
  rw [ab_s, upI_at ha.1, hu, (ab_stab w 41 b 40 41 (by omega) h2 h3 (by omega) (by omega)).1]
theorem dp_up (w : WF t) {a : Nat} (h2 : a < mk t) : dp t a = above t 40 (upI t (a : Int)) + 1 := by
  unfold dp
  rw [ab_s]
/-- no tree that is written out comes deeper than 40 -/
def HH (t : TV) (c : Nat) : Prop := dp t c + qu t c + rk t (dk t c 0) ≤ 40 ∧ ∀ k, k < qp t c → dp t c + k + 1 + rk t (qx t c k) ≤ 40
noncomputable def rho (t : TV) (c s : Nat) : Nat := if s < mk t then (if dC (∃ d, (s, d) ∈ pre t 40 1 c) = true then rk t s else 41 - dp t s)
  else if (ds t c s).1 = 0 then 41 - (dp t c + (ds t c s).2) else if (ds t c s).1 = 1 then 40 - (dp t c + (ds t c s).2) else if (ds t c s).1 = 2 then 1 else if (ds t c s).1 = 3 then 41 - (dp t c + qu t c) else rk t (dk t c (ds t c s).2)
theorem rho_b {k : Nat} (hk : k < qu t c) : rho t c (qb t c k) = 41 - (dp t c + k) := by
  have := qb_ge (t := t) (c := c) k
  unfold rho
  rw [if_neg (by omega), ds_b hk, if_pos rfl]
theorem rho_s {k : Nat} (hk : k < qu t c) : rho t c (qb t c k + 1) = 40 - (dp t c + k) := by
  have := qb_ge (t := t) (c := c) k
  unfold rho
  rw [if_neg (by omega), ds_s hk, if_neg (by simp), if_pos rfl]
theorem rho_z {k : Nat} (hk : k < qu t c) (hp : qp t c ≤ k) : rho t c (qb t c k + 2) = 1 := by
  have := qb_ge (t := t) (c := c) k
  unfold rho
  rw [if_neg (by omega), ds_z hk hp, if_neg (by simp), if_neg (by simp), if_pos rfl]
theorem rho_K (h : MH t c) : rho t c (qK t c) = 41 - (dp t c + qu t c) := by
  have := qK_ge t c
  unfold rho
  rw [if_neg (by omega), ds_B h, if_neg (by simp), if_neg (by simp), if_neg (by simp), if_pos rfl]
theorem rho_t (h : MH t c) (i : Nat) : rho t c (qK t c + 1 + i) = rk t (dk t c i) := by
  have := qK_ge t c
  unfold rho
  rw [if_neg (by omega), ds_t h, if_neg (by simp), if_neg (by simp), if_neg (by simp), if_neg (by simp)]
theorem usL_has : ∀ (D : List (Nat × Nat)) (p : Int) (q : Nat × Nat), q ∈ D → (kd t q.1 = 1 ∨ kd t q.1 = 4) → nm t q.1 + 1 ≤ usL t D p
  | x :: D, p, q, hq, hk => by
    show _ ≤ usL t D (usS t p x)
    rcases List.mem_cons.mp hq with e | e
    · have h1 := usL_ge t D (usS t p x)
      have h2 : nm t q.1 + 1 ≤ usS t p x := by
        rw [← e]
        unfold usS
        rw [if_pos hk]
        omega
      omega
    · exact usL_has D _ q e hk
/-- each new step but the outermost hangs in one that is new -/
theorem uN_p (h : MH t c) {s : Nat} (h1 : mk t < s) (h2 : s < qE t c) : mk t ≤ uN t c s ∧ uN t c s < qE t c ∧ ∃ j, j < 3 ∧ pN t c (uN t c s) j = (s : Int) := by
  have hu := h.u4
  have hK := qK_ge t c
  have hEd : qE t c = qK t c + 1 + (qD t c).length := rfl
  rcases new_is h (by omega) h2 with ⟨k, hk, rfl⟩ | ⟨k, hk, rfl⟩ | ⟨k, hk, hp, rfl⟩ | rfl | ⟨i, hi, rfl⟩
  · have k0 : k ≠ 0 := fun e => by
      subst e
      unfold qb at h1
      omega
    have hm : k - 1 < qu t c := by omega
    have hg := qb_ge (t := t) (c := c) (k - 1)
    have hb := qb_K hm
    rw [uN_b hk]
    exact ⟨hg, by omega, 1, by decide, by rw [pN_b hm, if_neg (by decide), if_pos rfl, show k - 1 + 1 = k by omega]⟩
  · have hg := qb_ge (t := t) (c := c) k
    have hb := qb_K hk
    rw [uN_s hk]
    exact ⟨hg, by omega, 0, by decide, by rw [pN_b hk, if_pos rfl]⟩
  · have hg := qb_ge (t := t) (c := c) k
    have hb := qb_K hk
    rw [uN_z hk hp]
    exact ⟨by omega, by omega, 0, by decide, by rw [pN_s hk, if_pos rfl, if_neg (by omega)]⟩
  · have u0 : qu t c ≠ 0 := fun e => by
      unfold qK qb at h1
      omega
    have hm : qu t c - 1 < qu t c := by omega
    have hg := qb_ge (t := t) (c := c) (qu t c - 1)
    have hb := qb_K hm
    rw [uN_K h]
    refine ⟨hg, by omega, 1, by decide, ?_⟩
    rw [pN_b hm, if_neg (by decide), if_pos rfl, show qu t c - 1 + 1 = qu t c by omega]
    rfl
  · by_cases i0 : i = 0
    · subst i0
      rw [uN_t h, if_pos rfl]
      exact ⟨hK, by omega, 0, by decide, by rw [pN_K h, if_pos rfl]⟩
    · obtain ⟨d, hm⟩ := dk_mem hi
      have hne : dk t c i ≠ (bdI t (nm t c)).toNat := fun z => by
        have z1 := h.ixk hi
        have z2 := h.ixk h.dk0.2
        rw [h.dk0.1, ← z, z1] at z2
        omega
      obtain ⟨a, d', u1, u2, u3⟩ := h.Dup hm hne
      have hl := tn_lt h u2
      have e1 : uN t c (qK t c + 1 + i) = tn t c a := by
        rw [uN_t h, if_neg i0, u1]
        rfl
      obtain ⟨j, hj, hj0, hje⟩ := mem_ch.mp u3
      rw [e1]
      refine ⟨by omega, hl.1, j, hj, ?_⟩
      have e2 : pN t c (tn t c a) j = _ := pN_t h (i := ix (qD t c) a) (j := j)
      rw [e2, h.dkx u2, if_neg (by omega), ← hje, tn_dk h hi]
theorem pw_mem {D : List (Nat × Nat)} (hp : D.Pairwise (fun x y => x.1 ≠ y.1)) {x y : Nat × Nat} (hx : x ∈ D) (hy : y ∈ D) (e : x.1 = y.1) : x = y := by
  obtain ⟨i, hi⟩ := List.getElem?_of_mem hx
  obtain ⟨j, hj⟩ := List.getElem?_of_mem hy
  have := pw_at hp hi hj e
  subst this
  rw [hi] at hj
  injection hj
theorem FT_al (h : MH t c) {s : Nat} : (s < qE t c ∧ kd (FT t c) s ≠ -1) ↔ ((s < mk t ∧ s ≠ c ∧ kd t s ≠ -1) ∨ (mk t ≤ s ∧ s < qE t c)) := by
  have hcm := h.2.1
  have hEd : qE t c = qK t c + 1 + (qD t c).length := rfl
  have hK := qK_ge t c
  rw [FT_k]
  constructor
  · rintro ⟨h1, h2⟩
    by_cases z : s = c
    · rw [if_pos z] at h2
      exact absurd rfl h2
    · rw [if_neg z] at h2
      by_cases z2 : s < mk t
      · rw [if_pos z2] at h2
        exact Or.inl ⟨z2, z, h2⟩
      · exact Or.inr ⟨by omega, h1⟩
  · rintro (⟨h1, h2, h3⟩ | ⟨h1, h2⟩)
    · refine ⟨by omega, ?_⟩
      rw [if_neg h2, if_pos h1]
      exact h3
    · refine ⟨h2, ?_⟩
      rw [if_neg (by omega), if_neg (by omega)]
      exact kN_al h h1 h2
theorem FT_ux (h : MH t c) {k : Nat} (hk : k < qp t c) : up (FT t c) (qx t c k) = ((qb t c k + 1 : Nat) : Int) := by
  have hx := h.x hk
  rw [FT_u, if_neg hx.2.2.2.2.1, if_neg (by omega), if_neg (by omega), if_pos (dC_t ⟨k, hk, rfl⟩), uN_x h hk]
theorem FT_uo (h : MH t c) {s : Nat} (hs : s < mk t) (hc : s ≠ c) (hu : up t s ≠ (c : Int)) : up (FT t c) s = up t s := by
  rw [FT_u, if_neg hc, if_neg (by omega), if_neg (by omega), if_neg]
  intro q
  obtain ⟨k, k1, k2⟩ := dC_iff.mp q
  rw [k2] at hu
  exact hu (h.x k1).2.2.2.1
theorem FT_un (h : MH t c) {s : Nat} (hs : mk t < s) : up (FT t c) s = (uN t c s : Int) := by
  have := h.2.1
  rw [FT_u, if_neg (by omega), if_neg (by omega), if_pos hs]
theorem FT_um (h : MH t c) : up (FT t c) (mk t) = up t c := by
  have := h.2.1
  rw [FT_u, if_neg (by omega), if_pos rfl]
theorem FT_po (h : MH t c) {s k : Nat} (hs : s < mk t) (hc : s ≠ c) (hk : k < 3) : pt (FT t c) s k = if pt t s k = (c : Int) then (mk t : Int) else pt t s k := by
  rw [FT_p hk, if_neg hc, if_pos hs]
theorem FT_pn (h : MH t c) {s k : Nat} (hs : mk t ≤ s) (hk : k < 3) : pt (FT t c) s k = if pN t c s k < 0 then -4 else pN t c s k := by
  have := h.2.1
  rw [FT_p hk, if_neg (by omega), if_neg (by omega)]
theorem kid_x (h : MH t c) {s : Nat} (hs : s < mk t) (hk : kd t s ≠ -1) (hu : up t s = (c : Int)) : ∃ k, k < qp t c ∧ s = qx t c k := by
  obtain ⟨_, k, hk3, hp⟩ := h.1.2.2.2.2.2.2.2 s hs hk (by omega)
  rw [hu] at hp
  have hp : pt t c k = (s : Int) := hp
  refine ⟨k, Classical.byContradiction fun q => ?_, by unfold qx; omega⟩
  have := h.xz (k := k) (by omega) hk3
  omega
theorem wf_FT (h : MH t c) (hh : HH t c) : WF (FT t c) := by
  have hcm := h.2.1
  have hu := h.u4
  have hp3 := h.p3
  have hE := h.E
  have hEd : qE t c = qK t c + 1 + (qD t c).length := rfl
  have hK := qK_ge t c
  have hck : kd t c ≠ -1 := by rw [h.2.2.1]; decide
  have hdc := dp_rk h.1 hcm hck
  have hd0 := h.dk0
  have hr0 := rk_pos h.1 (h.dkal hd0.2).1 (h.dkal hd0.2).2
  have em : mk (FT t c) = qE t c := rfl
  have er : rt (FT t c) = rt t := rfl
  have ep : ∀ r, pr (FT t c) r = pr t r := fun r => rfl
  have bup : ∀ r, r < rt t → ∀ s : Nat, bd t r = (s : Int) → up t s = -4 := fun r hr s e => by
    obtain ⟨_, _, h4⟩ := h.1.2.2.1 r hr
    rw [e] at h4
    rcases h4 with h4 | h4
    · omega
    · simpa using h4.2
  refine ⟨hE.2, h.1.2.1, fun r hr => ?_, fun r q hr hq hne hb => ?_, fun s hs => ?_, fun s hs hk => ?_, ?_, fun s hs hk hus => ?_⟩
  · have hr : r < rt t := hr
    obtain ⟨a1, a2, a3⟩ := h.1.2.2.1 r hr
    refine ⟨a1, a2, ?_⟩
    rw [FT_b]
    by_cases z : bd t r = (c : Int)
    · rw [if_pos z]
      refine Or.inr ⟨al_n.mpr ((FT_al h).mpr (Or.inr ⟨Nat.le_refl _, by omega⟩)), ?_⟩
      rw [Int.toNat_natCast, FT_um h]
      exact bup r hr c z
    · rw [if_neg z]
      rcases a3 with a3 | ⟨b1, b2⟩
      · exact Or.inl a3
      · obtain ⟨s, hs⟩ := Int.eq_ofNat_of_zero_le b1.1
        rw [hs] at b1 b2 z ⊢
        rw [Int.toNat_natCast] at b2 ⊢
        obtain ⟨c1, c2⟩ := al_n.mp b1
        have hsc : s ≠ c := fun e => z (by rw [e])
        refine Or.inr ⟨al_n.mpr ((FT_al h).mpr (Or.inl ⟨c1, hsc, c2⟩)), ?_⟩
        rw [FT_uo h c1 hsc (by omega)]
        exact b2
  · have hr : r < rt t := hr
    have hq : q < rt t := hq
    have lt : ∀ r, r < rt t → bd t r ≠ (mk t : Int) := fun r hr e => by
      obtain ⟨_, _, h4⟩ := h.1.2.2.1 r hr
      rw [e] at h4
      rcases h4 with h4 | h4
      · omega
      · have := h4.1.2.1
        omega
    have l1 := lt r hr
    have l2 := lt q hq
    rw [FT_b] at hb
    rw [FT_b, FT_b]
    by_cases z1 : bd t r = (c : Int)
    · have z2 : bd t q ≠ (c : Int) := fun e => h.1.2.2.2.1 r q hr hq hne (by omega) (by omega)
      rw [if_pos z1, if_neg z2]
      exact fun e => l2 e.symm
    · rw [if_neg z1] at hb ⊢
      by_cases z2 : bd t q = (c : Int)
      · rw [if_pos z2]
        exact l1
      · rw [if_neg z2]
        exact h.1.2.2.2.1 r q hr hq hne hb
  · have hs : s < qE t c := hs
    by_cases z : s = c
    · rw [FT_k, FT_n, FT_u, if_pos z, if_pos z, if_pos z]
      exact ⟨by decide, by decide, fun _ => ⟨rfl, rfl, fun k hk => by rw [FT_p hk, if_pos z]⟩⟩
    · by_cases z2 : s < mk t
      · obtain ⟨a1, a2, a3⟩ := h.1.2.2.2.2.1 s z2
        rw [FT_k, FT_n, if_neg z, if_neg z, if_pos z2, if_pos z2]
        refine ⟨a1, a2, fun e => ?_⟩
        obtain ⟨b1, b2, b3⟩ := a3 e
        refine ⟨b1, ?_, fun k hk => ?_⟩
        · rw [FT_uo h z2 z (by omega)]
          exact b2
        · rw [FT_po h z2 z hk, b3 k hk, if_neg (by omega)]
      · have hal := kN_al h (s := s) (by omega) hs
        rw [FT_k, if_neg z, if_neg z2]
        refine ⟨?_, ?_, fun e => absurd e hal⟩
        all_goals
          rcases new_is h (by omega) hs with ⟨k, hk, e⟩ | ⟨k, hk, e⟩ | ⟨k, hk, hp, e⟩ | e | ⟨i, hi, e⟩
          · rw [e, (kN_b hk).1]; decide
          · rw [e, (kN_s hk).1]; decide
          · rw [e, (kN_z hk hp).1]; decide
          · rw [e, (kN_K h).1]; decide
          · rw [e, (kN_t h i).1]
            have := h.1.2.2.2.2.1 _ (h.dkal hi).1
            omega
  · rcases (FT_al h).mp ⟨hs, hk⟩ with ⟨z2, z, hk2⟩ | ⟨z2, hs⟩
    · obtain ⟨a1, a2, a3, a4⟩ := h.1.2.2.2.2.2.1 s z2 hk2
      have ek : kd (FT t c) s = kd t s := by rw [FT_k, if_neg z, if_pos z2]
      have en : nm (FT t c) s = nm t s := by rw [FT_n, if_neg z, if_pos z2]
      have ea : ar (FT t c) s = ar t s := by
        unfold ar
        rw [ek, en, ep]
      rw [ek, en, ea]
      refine ⟨a1, a2, a3, fun k hk3 => ?_⟩
      rw [FT_po h z2 z hk3]
      obtain ⟨b1, b2⟩ := a4 k hk3
      refine ⟨fun q => ?_, fun q => ?_⟩
      · split
        · omega
        · exact b1 q
      · rw [b2 q, if_neg (by omega)]
    · have ek : kd (FT t c) s = kN t c s := by rw [FT_k, if_neg (by omega), if_neg (by omega)]
      have en : nm (FT t c) s = nN t c s := by rw [FT_n, if_neg (by omega), if_neg (by omega)]
      have pp : ∀ k, k < 3 → pt (FT t c) s k = if pN t c s k < 0 then -4 else pN t c s k := fun k hk3 => FT_pn h z2 hk3
      rcases new_is h z2 hs with ⟨k, hk, e⟩ | ⟨k, hk, e⟩ | ⟨k, hk, hp, e⟩ | e | ⟨i, hi, e⟩
      · have e1 : kN t c s = 5 := by rw [e, (kN_b hk).1]
        have ea : ar (FT t c) s = 2 := by
          unfold ar
          rw [ek, e1, if_pos (by omega)]
        rw [ek, e1, ea]
        refine ⟨by omega, by omega, by omega, fun k3 hk3 => ?_⟩
        rw [pp k3 hk3, e, pN_b hk]
        rcases (by omega : k3 = 0 ∨ k3 = 1 ∨ k3 = 2) with rfl | rfl | rfl
        · rw [if_pos rfl, if_neg (by omega)]
          exact ⟨fun _ => by omega, fun q => by omega⟩
        · rw [if_neg (show ¬ ((1 : Nat) = 0) by decide), if_pos (show (1 : Nat) = 1 from rfl), if_neg (by omega)]
          exact ⟨fun _ => by omega, fun q => by omega⟩
        · rw [if_neg (show ¬ ((2 : Nat) = 0) by decide), if_neg (show ¬ ((2 : Nat) = 1) by decide), if_pos (by decide)]
          exact ⟨fun q => by omega, fun _ => rfl⟩
      · have e1 : kN t c s = 4 := by rw [e, (kN_s hk).1]
        have e2 : nN t c s = qs t c + (k : Int) := by rw [e, (kN_s hk).2]
        have ea : ar (FT t c) s = 1 := by
          unfold ar
          rw [ek, e1, if_neg (by omega), if_neg (by omega), if_pos (by omega)]
        have h40 := h.2.2.2.2.2.2
        have hs0 := h.s0
        rw [ek, en, e1, e2, ea]
        refine ⟨fun _ => by omega, by omega, by omega, fun k3 hk3 => ?_⟩
        rw [pp k3 hk3, e, pN_s hk]
        rcases (by omega : k3 = 0 ∨ k3 = 1 ∨ k3 = 2) with rfl | rfl | rfl
        · rw [if_pos rfl]
          refine ⟨fun _ => ?_, fun q => by omega⟩
          split <;> split <;> omega
        · rw [if_neg (show ¬ ((1 : Nat) = 0) by decide), if_pos (by decide)]
          exact ⟨fun q => by omega, fun _ => rfl⟩
        · rw [if_neg (show ¬ ((2 : Nat) = 0) by decide), if_pos (by decide)]
          exact ⟨fun q => by omega, fun _ => rfl⟩
      · have e1 : kN t c s = 0 := by rw [e, (kN_z hk hp).1]
        have ea : ar (FT t c) s = 0 := by
          unfold ar
          rw [ek, e1, if_neg (by omega), if_neg (by omega), if_neg (by omega), if_neg (by omega)]
        rw [ek, e1, ea]
        refine ⟨by omega, by omega, by omega, fun k3 hk3 => ?_⟩
        rw [pp k3 hk3, e, pN_z hk hp, if_pos (by decide)]
        exact ⟨fun q => by omega, fun _ => rfl⟩
      · have e1 : kN t c s = 11 := by rw [e, (kN_K h).1]
        have ea : ar (FT t c) s = 1 := by
          unfold ar
          rw [ek, e1, if_neg (by omega), if_neg (by omega), if_pos (by omega)]
        rw [ek, e1, ea]
        refine ⟨by omega, by omega, by omega, fun k3 hk3 => ?_⟩
        rw [pp k3 hk3, e, pN_K h]
        rcases (by omega : k3 = 0 ∨ k3 = 1 ∨ k3 = 2) with rfl | rfl | rfl
        · rw [if_pos rfl, if_neg (by omega)]
          exact ⟨fun _ => by omega, fun q => by omega⟩
        · rw [if_neg (show ¬ ((1 : Nat) = 0) by decide), if_pos (by decide)]
          exact ⟨fun q => by omega, fun _ => rfl⟩
        · rw [if_neg (show ¬ ((2 : Nat) = 0) by decide), if_pos (by decide)]
          exact ⟨fun q => by omega, fun _ => rfl⟩
      · have hia := h.dkal hi
        obtain ⟨dd, hm⟩ := dk_mem hi
        have e1 : kN t c s = kd t (dk t c i) := by rw [e, (kN_t h i).1]
        have e2 : nN t c s = nm t (dk t c i) + (if kd t (dk t c i) = 1 ∨ kd t (dk t c i) = 4 then qs t c else 0) := by rw [e, (kN_t h i).2]
        obtain ⟨a1, a2, a3, a4⟩ := h.1.2.2.2.2.2.1 _ hia.1 hia.2
        have h40 := h.2.2.2.2.2.2
        have hs0 := h.s0
        have ea : ar (FT t c) s = ar t (dk t c i) := by
          unfold ar
          rw [ek, en, e1, e2]
          by_cases q : kd t (dk t c i) = 6
          · rw [q, if_neg (show ¬ ((6 : Int) = 1 ∨ (6 : Int) = 4) by omega), Int.add_zero]
            rfl
          · rw [if_neg q, if_neg q]
        rw [ek, en, e1, e2, ea]
        refine ⟨fun q => ?_, fun q => ?_, fun q => ?_, fun k3 hk3 => ?_⟩
        · have g1 := a1 q
          have g2 : nm t (dk t c i) + 1 ≤ uses t (nm t c) := usL_has (qD t c) (prI t (nm t c)) (dk t c i, dd) hm q
          rw [if_pos q]
          omega
        · rw [if_neg (by omega)]
          have := a2 q
          rw [er]
          omega
        · rw [if_neg (by omega)]
          have := a3 q
          omega
        · rw [pp k3 hk3, e, pN_t h]
          obtain ⟨b1, b2⟩ := a4 k3 hk3
          refine ⟨fun q => ?_, fun q => ?_⟩
          · have := b1 q
            rw [if_neg (by omega), if_neg (by omega)]
            omega
          · rw [b2 q, if_pos (show (-4 : Int) < 0 by decide), if_pos (by decide)]
  · -- trees
    have below : ∀ {s : Nat}, s < mk t → kd t s ≠ -1 → s ≠ c → (dC (∃ d, (s, d) ∈ pre t 40 1 c) = true → ∀ y ∈ ch t s, dC (∃ d, (y, d) ∈ pre t 40 1 c) = true ∧ y ≠ c) ∧ (dC (∃ d, (s, d) ∈ pre t 40 1 c) ≠ true → ∀ y ∈ ch t s, y ≠ c → dC (∃ d, (y, d) ∈ pre t 40 1 c) ≠ true) := by
      intro s hs hks hsc
      have htc := h.1.tr' hcm hck
      refine ⟨fun q y hy => ?_, fun q y hy hyc q2 => ?_⟩
      · obtain ⟨d, hd⟩ := dC_iff.mp q
        have hd2 := pre_ch hd htc hy
        refine ⟨dC_t ⟨_, hd2⟩, fun e => ?_⟩
        rw [e] at hd2
        have h1 := pw_mem (pre_nodup htc) hd2 (mem_pre.mpr (Or.inl rfl)) rfl
        have h2 := (pre_in hd htc).1
        have h3 := congrArg Prod.snd h1
        have h3 : d + 1 = 1 := h3
        omega
      · obtain ⟨d, hd⟩ := dC_iff.mp q2
        have hus := tr_up (h.1.tr' hs hks) hy
        rcases pclos hd htc with ⟨e, _⟩ | ⟨y', e1, _, e2⟩
        · exact hyc e
        · have : y' = s := by omega
          subst this
          exact q (dC_t ⟨_, e2⟩)
    have rho_o : ∀ {s : Nat}, s < mk t → rho t c s = if dC (∃ d, (s, d) ∈ pre t 40 1 c) = true then rk t s else 41 - dp t s := fun {s} hs => by
      unfold rho
      rw [if_pos hs]
    have rho_m : rho t c (mk t) = 41 - dp t c := by
      by_cases u0 : qu t c = 0
      · have eK : qK t c = mk t := by unfold qK qb; omega
        rw [← eK, rho_K h, u0]
        rfl
      · have eb : qb t c 0 = mk t := by unfold qb; omega
        rw [← eb, rho_b (by omega)]
        rfl
    have rho40 : ∀ s, s < qE t c → kd (FT t c) s ≠ -1 → rho t c s ≤ 40 := by
      intro s hs hk
      rcases (FT_al h).mp ⟨hs, hk⟩ with ⟨z2, z, hk2⟩ | ⟨z2, hs⟩
      · rw [rho_o z2]
        have := rk_pos h.1 z2 hk2
        have := dp_rk h.1 z2 hk2
        split <;> omega
      · rcases new_is h z2 hs with ⟨k, hk, e⟩ | ⟨k, hk, e⟩ | ⟨k, hk, hp, e⟩ | e | ⟨i, hi, e⟩
        · rw [e, rho_b hk]; omega
        · rw [e, rho_s hk]; omega
        · rw [e, rho_z hk hp]; decide
        · rw [e, rho_K h]; omega
        · rw [e, rho_t h]
          exact (rk_pos h.1 (h.dkal hi).1 (h.dkal hi).2).2
    refine fun s hs hk => tr_rank (ρ := rho t c) (fun s hs hk => ?_) 40 s hs hk (rho40 s hs hk)
    have hs : s < qE t c := hs
    have hh1 := hh.1
    rcases (FT_al h).mp ⟨hs, hk⟩ with ⟨z2, z, hk2⟩ | ⟨z2, hs⟩
    · have hrs := rk_pos h.1 z2 hk2
      have hds := dp_rk h.1 z2 hk2
      obtain ⟨bl1, bl2⟩ := below z2 hk2 z
      have lkt := h.1.lk z2 hk2
      -- an old part stays
      have old : ∀ y, y ∈ ch t s → y ≠ c → y < qE t c ∧ kd (FT t c) y ≠ -1 ∧ rho t c y < rho t c s ∧ up (FT t c) y = (s : Int) := by
        intro y hy hyc
        have hya := ch_al h.1 z2 hk2 hy
        have hyu := tr_up (h.1.tr' z2 hk2) hy
        have hal := (FT_al h).mpr (Or.inl ⟨hya.1, hyc, hya.2⟩)
        refine ⟨hal.1, hal.2, ?_, ?_⟩
        · rw [rho_o hya.1, rho_o z2]
          by_cases q : dC (∃ d, (s, d) ∈ pre t 40 1 c) = true
          · rw [if_pos q, if_pos (bl1 q y hy).1]
            exact rk_ch h.1 z2 hk2 hy
          · rw [if_neg q, if_neg (bl2 q y hy hyc), dp_ch h.1 z2 hk2 hy]
            omega
        · rw [FT_uo h hya.1 hyc (by omega)]
          exact hyu
      refine ⟨fun k hk3 => ?_, ?_, fun y hy => ?_⟩
      · rw [FT_po h z2 z hk3]
        by_cases q : pt t s k = (c : Int)
        · rw [if_pos q]
          refine Or.inr ⟨by show (mk t : Int) < (qE t c : Int); omega, ?_, fun j hj hne => ?_⟩
          · rw [Int.toNat_natCast, FT_um h]
            have hc2 : c ∈ ch t s := mem_ch.mpr ⟨k, hk3, by omega, by omega⟩
            exact tr_up (h.1.tr' z2 hk2) hc2
          · rw [FT_po h z2 z hj]
            rcases lkt k hk3 with q1 | ⟨_, _, q3⟩
            · omega
            · have h3 := q3 j hj hne
              rw [if_neg (by omega)]
              intro e
              rcases lkt j hj with r1 | ⟨r1, _, _⟩ <;> omega
        · rw [if_neg q]
          rcases lkt k hk3 with q1 | ⟨q1, q2, q3⟩
          · exact Or.inl q1
          · by_cases h0 : pt t s k < 0
            · exact Or.inl h0
            · have hy : (pt t s k).toNat ∈ ch t s := mem_ch.mpr ⟨k, hk3, by omega, rfl⟩
              obtain ⟨o1, _, _, o4⟩ := old _ hy (by omega)
              refine Or.inr ⟨by show pt t s k < (qE t c : Int); omega, o4, fun j hj hne => ?_⟩
              rw [FT_po h z2 z hj]
              have := q3 j hj hne
              split <;> omega
      · rw [rho_o z2]
        split <;> omega
      · obtain ⟨k, hk3, h0, rfl⟩ := mem_ch.mp hy
        rw [FT_po h z2 z hk3] at h0 ⊢
        by_cases q : pt t s k = (c : Int)
        · rw [if_pos q, Int.toNat_natCast]
          have hal := (FT_al h).mpr (Or.inr ⟨Nat.le_refl (mk t), by omega⟩)
          have hc2 : c ∈ ch t s := mem_ch.mpr ⟨k, hk3, by omega, by omega⟩
          refine ⟨hal.1, hal.2, ?_⟩
          have hdp := dp_ch h.1 z2 hk2 hc2
          rw [rho_m, rho_o z2]
          have hns : dC (∃ d, (s, d) ∈ pre t 40 1 c) ≠ true := fun w => (bl1 w c hc2).2 rfl
          rw [if_neg hns]
          omega
        · rw [if_neg q] at h0 ⊢
          have hy : (pt t s k).toNat ∈ ch t s := mem_ch.mpr ⟨k, hk3, h0, rfl⟩
          obtain ⟨o1, o2, o3, _⟩ := old _ hy (by omega)
          exact ⟨o1, o2, o3⟩
    · have pp : ∀ k, k < 3 → pt (FT t c) s k = if pN t c s k < 0 then -4 else pN t c s k := fun k hk3 => FT_pn h z2 hk3
      have nw : ∀ k, k < 3 → 0 ≤ pN t c s k → up (FT t c) (pN t c s k).toNat = (s : Int) ∧ (pN t c s k).toNat < qE t c ∧ kd (FT t c) (pN t c s k).toNat ≠ -1 := by
        intro k hk3 h0
        obtain ⟨u1, -, u3, -, u5⟩ := pN_u h z2 hs hk3 rfl h0
        rcases u5 with ⟨k', k1, k2, k3⟩ | e
        · have hx := h.x k1
          have hal := (FT_al h).mpr (Or.inl ⟨hx.2.1, hx.2.2.2.2.1, hx.2.2.1⟩)
          rw [k2]
          exact ⟨by rw [FT_ux h k1, k3], hal.1, hal.2⟩
        · have hal := (FT_al h).mpr (Or.inr ⟨Nat.le_of_lt e, u3⟩)
          exact ⟨by rw [FT_un h e, u1], hal.1, hal.2⟩
      refine ⟨fun k hk3 => ?_, ?_, fun y hy => ?_⟩
      · rw [pp k hk3]
        by_cases q : pN t c s k < 0
        · rw [if_pos q]
          exact Or.inl (by decide)
        · rw [if_neg q]
          obtain ⟨n1, n2, _⟩ := nw k hk3 (by omega)
          obtain ⟨-, u2, -⟩ := pN_u h z2 hs hk3 rfl (by omega)
          refine Or.inr ⟨by show pN t c s k < (qE t c : Int); omega, n1, fun j hj hne => ?_⟩
          rw [pp j hj]
          split
          · omega
          · exact fun e => hne (u2 j hj e)
      · rcases new_is h z2 hs with ⟨k, hk, e⟩ | ⟨k, hk, e⟩ | ⟨k, hk, hp, e⟩ | e | ⟨i, hi, e⟩
        · rw [e, rho_b hk]; omega
        · rw [e, rho_s hk]; omega
        · rw [e, rho_z hk hp]; decide
        · rw [e, rho_K h]; omega
        · rw [e, rho_t h]
          exact (rk_pos h.1 (h.dkal hi).1 (h.dkal hi).2).1
      · obtain ⟨k3, hk3, h0, rfl⟩ := mem_ch.mp hy
        rw [pp k3 hk3] at h0 ⊢
        by_cases q : pN t c s k3 < 0
        · rw [if_pos q] at h0
          exact absurd h0 (by decide)
        · rw [if_neg q] at h0 ⊢
          obtain ⟨_, n2, n3⟩ := nw k3 hk3 (by omega)
          refine ⟨n2, n3, ?_⟩
          rcases new_is h z2 hs with ⟨k, hk, e⟩ | ⟨k, hk, e⟩ | ⟨k, hk, hp, e⟩ | e | ⟨i, hi, e⟩
          · rw [e, pN_b hk] at h0 ⊢
            rw [rho_b hk]
            split
            · rw [Int.toNat_natCast, rho_s hk]
              omega
            · rename_i w1
              rw [if_neg w1] at h0
              split
              · rw [Int.toNat_natCast]
                by_cases w : k + 1 < qu t c
                · rw [rho_b w]
                  omega
                · have : qb t c (k + 1) = qK t c := by
                    unfold qK
                    rw [show k + 1 = qu t c by omega]
                  rw [this, rho_K h]
                  omega
              · rename_i w2
                rw [if_neg w2] at h0
                exact absurd h0 (by decide)
          · rw [e, pN_s hk] at h0 ⊢
            rw [rho_s hk]
            split
            · split
              · rename_i w1 w2
                have hx := h.x w2
                have := hh.2 k w2
                rw [Int.toNat_natCast, rho_o hx.2.1, if_pos (dC_t ⟨2, pre_ch (mem_pre.mpr (Or.inl rfl)) (h.1.tr' hcm hck) hx.2.2.2.2.2.2⟩)]
                omega
              · rename_i w1 w2
                rw [Int.toNat_natCast, rho_z hk (by omega)]
                omega
            · rename_i w1
              rw [if_neg w1] at h0
              exact absurd h0 (by decide)
          · rw [e, pN_z hk hp] at h0
            exact absurd h0 (by decide)
          · rw [e, pN_K h] at h0 ⊢
            rw [rho_K h]
            split
            · rw [Int.toNat_natCast]
              have := rho_t h 0
              rw [show qK t c + 1 = qK t c + 1 + 0 from rfl, this]
              omega
            · rename_i w1
              rw [if_neg w1] at h0
              exact absurd h0 (by decide)
          · obtain ⟨dd, hm⟩ := dk_mem hi
            have hia := h.dkal hi
            rw [e, pN_t h] at h0 ⊢
            rw [rho_t h]
            split
            · rename_i w1
              rw [if_pos w1] at h0
              exact absurd h0 (by decide)
            · rename_i w1
              have hc : (pt t (dk t c i) k3).toNat ∈ ch t (dk t c i) := mem_ch.mpr ⟨k3, hk3, by omega, rfl⟩
              have hd := h.Dch hm hc
              have e2 : rho t c (tn t c (pt t (dk t c i) k3).toNat) = _ := rho_t h (ix (qD t c) (pt t (dk t c i) k3).toNat)
              rw [Int.toNat_natCast, e2, h.dkx hd]
              exact rk_ch h.1 hia.1 hia.2 hc
  · rcases (FT_al h).mp ⟨hs, hk⟩ with ⟨z2, z, hk2⟩ | ⟨z2, hs⟩
    · by_cases q : up t s = (c : Int)
      · obtain ⟨k, k1, k2⟩ := kid_x h z2 hk2 q
        have hb := qb_K (t := t) (c := c) (k := k) (by omega)
        have hg := qb_ge (t := t) (c := c) k
        rw [k2, FT_ux h k1]
        refine ⟨al_n.mpr ((FT_al h).mpr (Or.inr ⟨by omega, by omega⟩)), 0, by decide, ?_⟩
        rw [Int.toNat_natCast, FT_pn h (by omega) (by decide), pN_s (by omega), if_pos rfl, if_pos k1, if_neg (by omega)]
      · rw [FT_uo h z2 z q] at hus ⊢
        obtain ⟨b1, k, hk3, b3⟩ := h.1.2.2.2.2.2.2.2 s z2 hk2 hus
        obtain ⟨a, ha⟩ := Int.eq_ofNat_of_zero_le b1.1
        rw [ha] at b1 b3 q ⊢
        rw [Int.toNat_natCast] at b3 ⊢
        obtain ⟨c1, c2⟩ := al_n.mp b1
        have hac : a ≠ c := fun e => q (by rw [e])
        refine ⟨al_n.mpr ((FT_al h).mpr (Or.inl ⟨c1, hac, c2⟩)), k, hk3, ?_⟩
        rw [FT_po h c1 hac hk3, b3, if_neg (by omega)]
    · by_cases q : s = mk t
      · rw [q, FT_um h] at hus ⊢
        obtain ⟨b1, b2, b3⟩ := (mh_up h).resolve_left hus
        obtain ⟨a, ha⟩ := Int.eq_ofNat_of_zero_le b1.1
        rw [ha] at b1 b2 b3 ⊢
        rw [Int.toNat_natCast] at b2 ⊢
        obtain ⟨c1, c2⟩ := al_n.mp b1
        have hac : a ≠ c := fun e => b3 (by rw [e])
        obtain ⟨k, hk3, h0, he⟩ := mem_ch.mp b2
        refine ⟨al_n.mpr ((FT_al h).mpr (Or.inl ⟨c1, hac, c2⟩)), k, hk3, ?_⟩
        rw [FT_po h c1 hac hk3, if_pos (by omega)]
      · obtain ⟨p1, p2, j, hj, p3⟩ := uN_p h (by omega) hs
        rw [FT_un h (by omega)]
        refine ⟨al_n.mpr ((FT_al h).mpr (Or.inr ⟨p1, p2⟩)), j, hj, ?_⟩
        rw [Int.toNat_natCast, FT_pn h p1 hj, p3, if_neg (by omega)]
end ME8
