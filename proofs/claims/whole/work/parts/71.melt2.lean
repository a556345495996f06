/-! MELT: what the new steps hold; states half way -/
section ME2
variable {t : TV} {c : Nat}
theorem MH.x (h : MH t c) {k : Nat} (hk : k < qp t c) : pt t c k = (qx t c k : Int) ∧ qx t c k < mk t ∧ kd t (qx t c k) ≠ -1 ∧ up t (qx t c k) = (c : Int) ∧ qx t c k ≠ c ∧ (∀ j, j < 3 → j ≠ k → pt t c j ≠ pt t c k) ∧ qx t c k ∈ ch t c := by
  have h3 := h.p3
  have hn := h.nr
  have hpr : prI t (nm t c) = pr t (nm t c).toNat := if_pos hn
  have har : ar t c = qp t c := by
    unfold ar
    rw [h.2.2.1, if_neg (by omega), if_neg (by omega), if_neg (by omega), if_pos rfl, ← hpr]
    rfl
  have hk6 : kd t c ≠ -1 := by rw [h.2.2.1]; decide
  have h0 := ((h.1.2.2.2.2.2.1 c h.2.1 hk6).2.2.2 k (by omega)).1 (by omega)
  have hc : qx t c k ∈ ch t c := mem_ch.mpr ⟨k, by omega, h0, rfl⟩
  have ha := ch_al h.1 h.2.1 hk6 hc
  have hr := rk_ch h.1 h.2.1 hk6 hc
  rcases h.1.lk h.2.1 hk6 k (by omega) with q | ⟨q1, q2, q3⟩
  · omega
  · exact ⟨by unfold qx; omega, ha.1, ha.2, q2, fun e => by rw [e] at hr; omega, q3, hc⟩
theorem MH.xz (h : MH t c) {k : Nat} (hk : qp t c ≤ k) (h3 : k < 3) : pt t c k = -4 := by
  have hn := h.nr
  have hpr : prI t (nm t c) = pr t (nm t c).toNat := if_pos hn
  have har : ar t c = qp t c := by
    unfold ar
    rw [h.2.2.1, if_neg (by omega), if_neg (by omega), if_neg (by omega), if_pos rfl, ← hpr]
    rfl
  exact ((h.1.2.2.2.2.2.1 c h.2.1 (by rw [h.2.2.1]; decide)).2.2.2 k h3).2 (by omega)
theorem MH.xne (h : MH t c) {k j : Nat} (hk : k < qp t c) (hj : j < qp t c) (hne : j ≠ k) : qx t c j ≠ qx t c k := by
  have h1 := h.x hk
  have h2 := h.x hj
  have := h1.2.2.2.2.2.1 j (by have := h.p3; omega) hne
  omega
theorem pN_b {k j : Nat} (hk : k < qu t c) : pN t c (qb t c k) j = if j = 0 then ((qb t c k + 1 : Nat) : Int) else if j = 1 then (qb t c (k + 1) : Int) else -4 := by
  unfold pN
  rw [ds_b hk, if_pos rfl]
theorem pN_s {k j : Nat} (hk : k < qu t c) : pN t c (qb t c k + 1) j = if j = 0 then (if k < qp t c then (qx t c k : Int) else ((qb t c k + 2 : Nat) : Int)) else -4 := by
  unfold pN
  rw [ds_s hk, if_neg (by simp), if_pos rfl]
theorem pN_z {k j : Nat} (hk : k < qu t c) (hp : qp t c ≤ k) : pN t c (qb t c k + 2) j = -4 := by
  unfold pN
  rw [ds_z hk hp, if_neg (by simp), if_neg (by simp), if_pos rfl]
theorem pN_K (h : MH t c) {j : Nat} : pN t c (qK t c) j = if j = 0 then ((qK t c + 1 : Nat) : Int) else -4 := by
  unfold pN
  rw [ds_B h, if_neg (by simp), if_neg (by simp), if_neg (by simp), if_pos rfl]
theorem pN_t (h : MH t c) {i j : Nat} : pN t c (qK t c + 1 + i) j = if pt t (dk t c i) j < 0 then -4 else (tn t c (pt t (dk t c i) j).toNat : Int) := by
  unfold pN
  rw [ds_t h, if_neg (by simp), if_neg (by simp), if_neg (by simp), if_neg (by simp)]
theorem qb_ge (k : Nat) : mk t ≤ qb t c k := by
  unfold qb
  omega
theorem uN_b {k : Nat} (hk : k < qu t c) : uN t c (qb t c k) = qb t c (k - 1) := by
  have := qb_ge (t := t) (c := c) k
  unfold uN
  rw [if_neg (by omega), ds_b hk, if_pos rfl]
theorem uN_s {k : Nat} (hk : k < qu t c) : uN t c (qb t c k + 1) = qb t c k := by
  have := qb_ge (t := t) (c := c) k
  unfold uN
  rw [if_neg (by omega), ds_s hk, if_neg (by simp), if_pos rfl]
theorem uN_z {k : Nat} (hk : k < qu t c) (hp : qp t c ≤ k) : uN t c (qb t c k + 2) = qb t c k + 1 := by
  have := qb_ge (t := t) (c := c) k
  unfold uN
  rw [if_neg (by omega), ds_z hk hp, if_neg (by simp), if_neg (by simp), if_pos rfl]
theorem qK_ge (t : TV) (c : Nat) : mk t ≤ qK t c := qb_ge _
theorem uN_K (h : MH t c) : uN t c (qK t c) = qb t c (qu t c - 1) := by
  have := qK_ge t c
  unfold uN
  rw [if_neg (by omega), ds_B h, if_neg (by simp), if_neg (by simp), if_neg (by simp), if_pos rfl]
theorem uN_t (h : MH t c) {i : Nat} : uN t c (qK t c + 1 + i) = if i = 0 then qK t c else tn t c (up t (dk t c i)).toNat := by
  have := qK_ge t c
  unfold uN
  rw [if_neg (by omega), ds_t h, if_neg (by simp), if_neg (by simp), if_neg (by simp), if_neg (by simp)]
theorem uN_x (h : MH t c) {k : Nat} (hk : k < qp t c) : uN t c (qx t c k) = qb t c k + 1 := by
  have h1 := h.x hk
  have h3 := h.p3
  unfold uN
  rw [if_pos h1.2.1]
  have : kx t c (qx t c k) = k := by
    unfold kx
    rcases (by omega : k = 0 ∨ k = 1 ∨ k = 2) with rfl | rfl | rfl
    · rw [if_pos rfl]
    · rw [if_neg (fun e => h.xne (k := 1) (j := 0) (by omega) (by omega) (by decide) e.symm), if_pos rfl]
    · rw [if_neg (fun e => h.xne (k := 2) (j := 0) (by omega) (by omega) (by decide) e.symm), if_neg (fun e => h.xne (k := 2) (j := 1) (by omega) (by omega) (by decide) e.symm)]
  rw [this]
theorem tn_lt (h : MH t c) {s d : Nat} (hs : (s, d) ∈ qD t c) : tn t c s < qE t c ∧ qK t c + 1 ≤ tn t c s := by
  have := (ix_at hs).1
  unfold tn qE
  omega
theorem tn_dk (h : MH t c) {i : Nat} (hi : i < (qD t c).length) : tn t c (dk t c i) = qK t c + 1 + i := by
  unfold tn
  rw [h.ixk hi]
theorem uN_tn (h : MH t c) {s d a : Nat} (hs : (s, d) ∈ qD t c) (ha : (a, d - 1) ∈ qD t c ∨ ∃ d', (a, d') ∈ qD t c) (hc : s ∈ ch t a) : uN t c (tn t c s) = tn t c a ∧ ix (qD t c) s ≠ 0 := by
  have ha : ∃ d', (a, d') ∈ qD t c := ha.elim (fun q => ⟨_, q⟩) id
  obtain ⟨d', ha⟩ := ha
  have haa := plist_at (q := (a, d')) h.1 ha
  have hne : ix (qD t c) s ≠ 0 := fun e => by
    have h1 := h.dkx hs
    rw [e, h.dk0.1] at h1
    exact h.root ha (by rw [h1]; exact hc)
  refine ⟨?_, hne⟩
  have e1 : uN t c (tn t c s) = _ := uN_t h (i := ix (qD t c) s)
  rw [e1, if_neg hne, h.dkx hs, tr_up (h.1.tr' haa.1 haa.2) hc]
  rfl
/-- a part of a new step: it is new itself or was a part of the call, hangs there, and nowhere else -/
theorem pN_u (h : MH t c) {a j : Nat} {v : Int} (h1 : mk t ≤ a) (h2 : a < qE t c) (hj : j < 3) (hv : pN t c a j = v) (h0 : 0 ≤ v) : uN t c v.toNat = a ∧ (∀ j', j' < 3 → pN t c a j' = v → j' = j) ∧ v.toNat < qE t c ∧ v.toNat ≠ mk t ∧ ((∃ k, k < qp t c ∧ v.toNat = qx t c k ∧ a = qb t c k + 1) ∨ mk t < v.toNat) := by
  have hu := h.u4
  have hK := qK_ge t c
  rcases new_is h h1 h2 with ⟨k, hk, rfl⟩ | ⟨k, hk, rfl⟩ | ⟨k, hk, hp, rfl⟩ | rfl | ⟨i, hi, rfl⟩
  · rw [pN_b hk] at hv
    have hb := qb_K hk
    have hs := qb_s (t := t) (c := c) (k := k)
    have hE : qb t c (k + 1) ≤ qK t c := by rw [hs]; split <;> omega
    have hgt : qb t c k + 2 ≤ qb t c (k + 1) := by rw [hs]; split <;> omega
    have uni : ∀ j', j' < 3 → pN t c (qb t c k) j' = v → j' = j := fun j' hj' q => by
      rw [pN_b hk] at q
      split at hv <;> split at q <;> omega
    split at hv
    · have e : v.toNat = qb t c k + 1 := by omega
      rw [e]
      exact ⟨uN_s hk, uni, by unfold qE; omega, by omega, Or.inr (by omega)⟩
    · split at hv
      · have e : v.toNat = qb t c (k + 1) := by omega
        rw [e]
        refine ⟨?_, uni, by unfold qE; omega, by omega, Or.inr (by omega)⟩
        by_cases q : k + 1 < qu t c
        · rw [uN_b q]
          rfl
        · have : k + 1 = qu t c := by omega
          rw [show qb t c (k + 1) = qK t c by unfold qK; rw [this], uN_K h, ← this]
          rfl
      · omega
  · rw [pN_s hk] at hv
    have hb := qb_K hk
    have uni : ∀ j', j' < 3 → pN t c (qb t c k + 1) j' = v → j' = j := fun j' hj' q => by
      rw [pN_s hk] at q
      split at hv <;> split at q <;> omega
    split at hv
    · split at hv
      · rename_i hkp
        have e : v.toNat = qx t c k := by omega
        have hx := h.x hkp
        rw [e]
        exact ⟨uN_x h hkp, uni, by unfold qE; omega, by omega, Or.inl ⟨k, hkp, rfl, rfl⟩⟩
      · rename_i hkp
        have e : v.toNat = qb t c k + 2 := by omega
        have := hb.2.1 (by omega)
        rw [e]
        exact ⟨uN_z hk (by omega), uni, by unfold qE; omega, by omega, Or.inr (by omega)⟩
    · omega
  · rw [pN_z hk hp] at hv
    omega
  · rw [pN_K h] at hv
    have h9 := h.dk0.2
    have uni : ∀ j', j' < 3 → pN t c (qK t c) j' = v → j' = j := fun j' hj' q => by
      rw [pN_K h] at q
      split at hv <;> split at q <;> omega
    split at hv
    · have e : v.toNat = qK t c + 1 + 0 := by omega
      rw [e]
      refine ⟨by rw [uN_t h, if_pos rfl], uni, by unfold qE; omega, by omega, Or.inr (by omega)⟩
    · omega
  · obtain ⟨d, hm⟩ := dk_mem hi
    have hal := h.dkal hi
    have hv1 := hv
    rw [pN_t h] at hv
    split at hv
    · omega
    · rename_i q0
      have hc : (pt t (dk t c i) j).toNat ∈ ch t (dk t c i) := mem_ch.mpr ⟨j, hj, by omega, rfl⟩
      have hd := h.Dch hm hc
      have hl := tn_lt h hd
      have hu2 := uN_tn h hd (Or.inr ⟨d, hm⟩) hc
      have e : v.toNat = tn t c (pt t (dk t c i) j).toNat := by omega
      rw [e]
      refine ⟨by rw [hu2.1, tn_dk h hi], fun j' hj' q => ?_, hl.1, by omega, Or.inr (by omega)⟩
      rw [pN_t h] at q
      split at q
      · omega
      · rename_i q1
        have hc' : (pt t (dk t c i) j').toNat ∈ ch t (dk t c i) := mem_ch.mpr ⟨j', hj', by omega, rfl⟩
        have hd' := h.Dch hm hc'
        have e2 : ix (qD t c) (pt t (dk t c i) j').toNat = ix (qD t c) (pt t (dk t c i) j).toNat := by
          unfold tn at q hv
          omega
        have e3 := h.dkx hd'
        rw [e2, h.dkx hd] at e3
        refine Classical.byContradiction fun hne => ?_
        rcases h.1.lk hal.1 hal.2 j hj with z | ⟨_, _, z⟩
        · omega
        · exact z j' hj' hne (by omega)
/-- a state half way: lk tells which steps hang where they belong, jk how many SETs hold a place only (the reference's), n how many steps there are -/
def CT (t : TV) (c : Nat) (g : Bool) (lk : Nat → Bool) (jk n : Nat) : TV := (fun r j =>
  if r = 0 then (if j < mk t then kd t j else kN t c j)
  else if r = 1 then (if j < mk t then nm t j else nN t c j)
  else if r = 3 then (if lk j = true then (uN t c j : Int) else if j < mk t then up t j else -4)
  else if r = 2 then (if j / 3 < mk t then (if g = false ∧ j / 3 = c ∧ 0 ≤ t.1 2 j ∧ lk (t.1 2 j).toNat = true then -4 else t.1 2 j)
    else (if pN t c (j / 3) (j % 3) < 0 then -4 else if lk (pN t c (j / 3) (j % 3)).toNat = true then pN t c (j / 3) (j % 3)
      else if (ds t c (j / 3)).1 = 1 ∧ j % 3 = 0 ∧ (ds t c (j / 3)).2 < jk then ((ds t c (j / 3)).2 : Int) else -4))
  else t.1 r j, (n, rt t))
theorem CT_k (g : Bool) (lk : Nat → Bool) (jk n s : Nat) : kd (CT t c g lk jk n) s = if s < mk t then kd t s else kN t c s := rfl
theorem CT_n (g : Bool) (lk : Nat → Bool) (jk n s : Nat) : nm (CT t c g lk jk n) s = if s < mk t then nm t s else nN t c s := rfl
theorem CT_u (g : Bool) (lk : Nat → Bool) (jk n s : Nat) : up (CT t c g lk jk n) s = if lk s = true then (uN t c s : Int) else if s < mk t then up t s else -4 := rfl
theorem CT_r (g : Bool) (lk : Nat → Bool) (jk n r : Nat) : pr (CT t c g lk jk n) r = pr t r ∧ bd (CT t c g lk jk n) r = bd t r := ⟨rfl, rfl⟩
theorem CT_2 (g : Bool) (lk : Nat → Bool) (jk n j : Nat) : (CT t c g lk jk n).1 2 j = if j / 3 < mk t then (if g = false ∧ j / 3 = c ∧ 0 ≤ t.1 2 j ∧ lk (t.1 2 j).toNat = true then -4 else t.1 2 j)
    else (if pN t c (j / 3) (j % 3) < 0 then -4 else if lk (pN t c (j / 3) (j % 3)).toNat = true then pN t c (j / 3) (j % 3)
      else if (ds t c (j / 3)).1 = 1 ∧ j % 3 = 0 ∧ (ds t c (j / 3)).2 < jk then ((ds t c (j / 3)).2 : Int) else -4) := rfl
theorem CT_p (g : Bool) (lk : Nat → Bool) (jk n : Nat) {s k : Nat} (hk : k < 3) : pt (CT t c g lk jk n) s k = if s < mk t then (if g = false ∧ s = c ∧ 0 ≤ pt t s k ∧ lk (pt t s k).toNat = true then -4 else pt t s k)
    else (if pN t c s k < 0 then -4 else if lk (pN t c s k).toNat = true then pN t c s k
      else if (ds t c s).1 = 1 ∧ k = 0 ∧ (ds t c s).2 < jk then ((ds t c s).2 : Int) else -4) := by
  show (CT t c g lk jk n).1 2 (3 * s + k) = _
  rw [CT_2, show (3 * s + k) / 3 = s by omega, show (3 * s + k) % 3 = k by omega]
/-- nothing hangs yet -/
theorem CT_0 (g : Bool) (jk : Nat) (lk : Nat → Bool) (hl : ∀ s, lk s = false) : TE t (CT t c g lk jk (mk t)) := by
  refine ⟨rfl, rfl, fun s hs => ⟨?_, ?_, ?_⟩, fun j hj => ?_, fun r hr => ⟨rfl, rfl⟩⟩
  · rw [CT_k, if_pos hs]
  · rw [CT_n, if_pos hs]
  · rw [CT_u, hl, if_neg (by decide), if_pos hs]
  · rw [CT_2, if_pos (by omega), if_neg]
    rintro ⟨_, _, _, q⟩
    rw [hl] at q
    cases q
/-- a new step is made -/
theorem CT_make {g : Bool} {lk : Nat → Bool} {jk n : Nat} (hn : mk t ≤ n) (hl : lk n = false) (hp : ∀ j, j < 3 → 0 ≤ pN t c n j → lk (pN t c n j).toNat = false) (hj : (ds t c n).1 = 1 → jk ≤ (ds t c n).2) : TE (mkS (CT t c g lk jk n) (kN t c n) (nN t c n)) (CT t c g lk jk (n + 1)) := by
  have em : mk (CT t c g lk jk n) = n := rfl
  have e : ∀ r s, (mkS (CT t c g lk jk n) (kN t c n) (nN t c n)).1 r s = if r = 0 ∧ s = n then kN t c n else if r = 1 ∧ s = n then nN t c n else if r = 3 ∧ s = n then -4 else if r = 2 ∧ s / 3 = n then -4 else (CT t c g lk jk n).1 r s := fun r s => mkS_at _ _ _ r s
  have eO : ∀ r s, r ≠ 2 → s ≠ n → (mkS (CT t c g lk jk n) (kN t c n) (nN t c n)).1 r s = (CT t c g lk jk n).1 r s := fun r s h2 hs => by
    rw [e, if_neg (fun z => hs z.2), if_neg (fun z => hs z.2), if_neg (fun z => hs z.2), if_neg (fun z => h2 z.1)]
  refine ⟨rfl, rfl, fun s hs => ?_, fun j hj2 => ?_, fun r hr => ⟨?_, ?_⟩⟩
  · have hs : s < n + 1 := hs
    refine ⟨?_, ?_, ?_⟩
    · show kd (CT t c g lk jk (n + 1)) s = (mkS (CT t c g lk jk n) (kN t c n) (nN t c n)).1 0 s
      by_cases q : s = n
      · rw [CT_k, e, q, if_neg (show ¬ n < mk t by omega), if_pos ⟨rfl, rfl⟩]
      · rw [eO 0 s (by decide) q]
        rfl
    · show nm (CT t c g lk jk (n + 1)) s = (mkS (CT t c g lk jk n) (kN t c n) (nN t c n)).1 1 s
      by_cases q : s = n
      · rw [CT_n, e, q, if_neg (show ¬ n < mk t by omega), if_neg (show ¬ ((1 : Nat) = 0 ∧ n = n) by omega), if_pos ⟨rfl, rfl⟩]
      · rw [eO 1 s (by decide) q]
        rfl
    · show up (CT t c g lk jk (n + 1)) s = (mkS (CT t c g lk jk n) (kN t c n) (nN t c n)).1 3 s
      by_cases q : s = n
      · rw [CT_u, e, q, hl, if_neg (show ¬ (false = true) by decide), if_neg (show ¬ n < mk t by omega), if_neg (show ¬ ((3 : Nat) = 0 ∧ n = n) by omega), if_neg (show ¬ ((3 : Nat) = 1 ∧ n = n) by omega), if_pos ⟨rfl, rfl⟩]
      · rw [eO 3 s (by decide) q]
        rfl
  · rw [e, if_neg (show ¬ ((2 : Nat) = 0 ∧ j = n) by omega), if_neg (show ¬ ((2 : Nat) = 1 ∧ j = n) by omega), if_neg (show ¬ ((2 : Nat) = 3 ∧ j = n) by omega)]
    by_cases q : j / 3 = n
    · rw [if_pos (show (2 : Nat) = 2 ∧ j / 3 = n from ⟨rfl, q⟩), CT_2, q, if_neg (show ¬ n < mk t by omega)]
      split
      · rfl
      · rename_i q2
        rw [hp (j % 3) (by omega) (by omega), if_neg (show ¬ (false = true) by decide), if_neg]
        rintro ⟨z1, _, z2⟩
        have := hj z1
        omega
    · rw [if_neg (show ¬ ((2 : Nat) = 2 ∧ j / 3 = n) from fun z => q z.2)]
      rfl
  · show pr t r = (mkS (CT t c g lk jk n) (kN t c n) (nN t c n)).1 4 r
    rw [mkS_at, if_neg (by omega), if_neg (by omega), if_neg (by omega), if_neg (by omega)]
    rfl
  · show bd t r = (mkS (CT t c g lk jk n) (kN t c n) (nN t c n)).1 5 r
    rw [mkS_at, if_neg (by omega), if_neg (by omega), if_neg (by omega), if_neg (by omega)]
    rfl
def lkU (lk : Nat → Bool) (s : Nat) : Nat → Bool := fun x => decide (x = s) || lk x
theorem lkU_at {lk : Nat → Bool} {s x : Nat} : lkU lk s x = true ↔ x = s ∨ lk x = true := by
  unfold lkU
  rw [Bool.or_eq_true, decide_eq_true_eq]
theorem lkU_ne {lk : Nat → Bool} {s x : Nat} (hx : x ≠ s) : lkU lk s x = lk x := by
  unfold lkU
  rw [decide_eq_false hx, Bool.false_or]
/-- a step comes to hang where it belongs -/
theorem CT_link (h : MH t c) {g : Bool} {lk : Nat → Bool} {jk n s a j : Nat} (hn : n ≤ qE t c) (ha1 : mk t ≤ a) (ha : a < n) (hj : j < 3) (hp : pN t c a j = (s : Int)) (hg : g = true ∨ mk t ≤ s) : TE (lnk (CT t c g lk jk n) a j s) (CT t c g (lkU lk s) jk n) := by
  obtain ⟨e1, hun, _⟩ := pN_u h ha1 (by omega) hj hp (by omega)
  have e1 : uN t c s = a := e1
  refine ⟨rfl, rfl, fun x hx => ?_, fun q hq => ?_, fun r hr => ⟨?_, ?_⟩⟩
  · refine ⟨?_, ?_, ?_⟩
    · show _ = (lnk (CT t c g lk jk n) a j s).1 0 x
      rw [lnk_at, if_neg (by omega), if_neg (by omega)]
      rfl
    · show _ = (lnk (CT t c g lk jk n) a j s).1 1 x
      rw [lnk_at, if_neg (by omega), if_neg (by omega)]
      rfl
    · show up (CT t c g (lkU lk s) jk n) x = (lnk (CT t c g lk jk n) a j s).1 3 x
      rw [lnk_at, CT_u]
      by_cases z : x = s
      · rw [if_pos (lkU_at.mpr (Or.inl z)), if_pos (show (3 : Nat) = 3 ∧ x = s from ⟨rfl, z⟩), z, e1]
      · rw [lkU_ne z, if_neg (show ¬ ((3 : Nat) = 3 ∧ x = s) from fun y => z y.2), if_neg (show ¬ ((3 : Nat) = 2 ∧ x = 3 * a + j) by omega)]
        rfl
  · rw [lnk_at, if_neg (show ¬ ((2 : Nat) = 3 ∧ q = s) by omega)]
    by_cases z : q = 3 * a + j
    · rw [if_pos (show (2 : Nat) = 2 ∧ q = 3 * a + j from ⟨rfl, z⟩), CT_2, z, show (3 * a + j) / 3 = a by omega, show (3 * a + j) % 3 = j by omega, if_neg (show ¬ a < mk t by omega), hp, if_neg (show ¬ ((s : Int) < 0) by omega), Int.toNat_natCast, if_pos (lkU_at.mpr (Or.inl rfl))]
    · have hq : q < 3 * n := hq
      rw [if_neg (show ¬ ((2 : Nat) = 2 ∧ q = 3 * a + j) from fun y => z y.2), CT_2, CT_2]
      by_cases z1 : q / 3 < mk t
      · rw [if_pos z1, if_pos z1]
        by_cases z2 : g = false ∧ q / 3 = c ∧ 0 ≤ t.1 2 q
        · have hs : (t.1 2 q).toNat ≠ s := fun e => by
            rcases hg with y | y
            · rw [z2.1] at y; cases y
            · obtain ⟨y1, y2, y3⟩ := z2
              have hlt : t.1 2 q < (mk t : Int) := by
                have e3 : t.1 2 q = pt t c (q % 3) := by
                  show _ = t.1 2 (3 * c + q % 3)
                  rw [show 3 * c + q % 3 = q by omega]
                rw [e3] at y3 ⊢
                rcases h.1.lk h.2.1 (by rw [h.2.2.1]; decide) (q % 3) (by omega) with w | w
                · omega
                · exact w.1
              omega
          rw [lkU_ne hs]
        · rw [if_neg (fun y => z2 ⟨y.1, y.2.1, y.2.2.1⟩), if_neg (fun y => z2 ⟨y.1, y.2.1, y.2.2.1⟩)]
      · rw [if_neg z1, if_neg z1]
        by_cases z2 : pN t c (q / 3) (q % 3) < 0
        · rw [if_pos z2, if_pos z2]
        · rw [if_neg z2, if_neg z2]
          have hs : (pN t c (q / 3) (q % 3)).toNat ≠ s := fun e => by
            have e5 : pN t c (q / 3) (q % 3) = (s : Int) := by rw [← e]; exact (Int.toNat_of_nonneg (by omega)).symm
            obtain ⟨u1, _⟩ := pN_u h (a := q / 3) (j := q % 3) (by omega) (by omega) (by omega) rfl (by omega)
            rw [e] at u1
            have e3 : q / 3 = a := u1.symm.trans e1
            have e4 := hun (q % 3) (by omega) (by rw [← e3]; exact e5)
            omega
          rw [lkU_ne hs]
  · show pr t r = (lnk (CT t c g lk jk n) a j s).1 4 r
    rw [lnk_at, if_neg (by omega), if_neg (by omega)]
    rfl
  · show bd t r = (lnk (CT t c g lk jk n) a j s).1 5 r
    rw [lnk_at, if_neg (by omega), if_neg (by omega)]
    rfl
end ME2
