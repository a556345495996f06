/-! MELT: the steps that are made, told ahead -/
section ME
variable {t : TV} {c : Nat}
def qp (t : TV) (c : Nat) : Nat := (prI t (nm t c)).toNat
def qu (t : TV) (c : Nat) : Nat := (uses t (nm t c)).toNat
def qD (t : TV) (c : Nat) : List (Nat × Nat) := plist t (bdI t (nm t c))
def qs (t : TV) (c : Nat) : Int := uses t (home t (c : Int))
def qb (t : TV) (c k : Nat) : Nat := mk t + 2 * k + (k - qp t c)
def qK (t : TV) (c : Nat) : Nat := qb t c (qu t c)
def qx (t : TV) (c k : Nat) : Nat := (pt t c k).toNat
def qE (t : TV) (c : Nat) : Nat := qK t c + 1 + (qD t c).length
def ix (D : List (Nat × Nat)) (s : Nat) : Nat := D.findIdx (fun q => q.1 == s)
def tn (t : TV) (c v : Nat) : Nat := qK t c + 1 + ix (qD t c) v
def dk (t : TV) (c i : Nat) : Nat := ((qD t c).getD i (0, 0)).1
/-- which of the new steps: 0 a BOTH, 1 a SET, 2 a nought, 3 the BLOCK, 4 a twin; and its number -/
def ds (t : TV) (c s : Nat) : Nat × Nat := if s < mk t + 2 * qp t c then ((s - mk t) % 2, (s - mk t) / 2) else if s < qK t c then ((s - mk t - 2 * qp t c) % 3, qp t c + (s - mk t - 2 * qp t c) / 3) else if s = qK t c then (3, 0) else (4, s - qK t c - 1)
def kN (t : TV) (c s : Nat) : Int := if (ds t c s).1 = 0 then 5 else if (ds t c s).1 = 1 then 4 else if (ds t c s).1 = 2 then 0 else if (ds t c s).1 = 3 then 11 else kd t (dk t c (ds t c s).2)
def nN (t : TV) (c s : Nat) : Int := if (ds t c s).1 = 1 then qs t c + ((ds t c s).2 : Int) else if (ds t c s).1 = 4 then nm t (dk t c (ds t c s).2) + (if kd t (dk t c (ds t c s).2) = 1 ∨ kd t (dk t c (ds t c s).2) = 4 then qs t c else 0) else 0
def kx (t : TV) (c s : Nat) : Nat := if s = qx t c 0 then 0 else if s = qx t c 1 then 1 else 2
def uN (t : TV) (c s : Nat) : Nat := if s < mk t then qb t c (kx t c s) + 1 else if (ds t c s).1 = 0 then qb t c ((ds t c s).2 - 1) else if (ds t c s).1 = 1 then qb t c (ds t c s).2 else if (ds t c s).1 = 2 then qb t c (ds t c s).2 + 1 else if (ds t c s).1 = 3 then qb t c (qu t c - 1) else if (ds t c s).2 = 0 then qK t c else tn t c (up t (dk t c (ds t c s).2)).toNat
def pN (t : TV) (c s j : Nat) : Int :=
  if (ds t c s).1 = 0 then (if j = 0 then ((qb t c (ds t c s).2 + 1 : Nat) : Int) else if j = 1 then (qb t c ((ds t c s).2 + 1) : Int) else -4)
  else if (ds t c s).1 = 1 then (if j = 0 then (if (ds t c s).2 < qp t c then (qx t c (ds t c s).2 : Int) else ((qb t c (ds t c s).2 + 2 : Nat) : Int)) else -4)
  else if (ds t c s).1 = 2 then -4
  else if (ds t c s).1 = 3 then (if j = 0 then ((qK t c + 1 : Nat) : Int) else -4)
  else if pt t (dk t c (ds t c s).2) j < 0 then -4 else (tn t c (pt t (dk t c (ds t c s).2) j).toNat : Int)
/-- what melting rests on -/
def MH (t : TV) (c : Nat) : Prop := WF t ∧ c < mk t ∧ kd t c = 6 ∧ bdI t (nm t c) ≠ -4 ∧ home t (c : Int) ≠ -4 ∧ (mk t : Int) + wgt t c + 1 ≤ 600 ∧ qs t c + uses t (nm t c) ≤ 40
theorem MH.p3 (h : MH t c) : qp t c ≤ 3 ∧ (qp t c : Int) = prI t (nm t c) := by
  have := h.1.prr (nm t c)
  unfold qp
  omega
theorem MH.u4 (h : MH t c) : qp t c ≤ qu t c ∧ qu t c ≤ 40 ∧ (qu t c : Int) = uses t (nm t c) := by
  have h1 := h.1.us (nm t c)
  have h2 : prI t (nm t c) ≤ uses t (nm t c) := usL_ge t (plist t (bdI t (nm t c))) (prI t (nm t c))
  have h3 := h.p3
  unfold qu
  omega
theorem MH.E (h : MH t c) : (qE t c : Int) = (mk t : Int) + wgt t c + 1 ∧ qE t c ≤ 600 := by
  have h1 := h.u4
  have h3 := h.p3
  have h4 := h.2.2.2.2.2.1
  unfold wgt at h4 ⊢
  unfold qE qK qb qD
  omega
theorem MH.nr (h : MH t c) : 0 ≤ nm t c ∧ nm t c < (rt t : Int) := (h.1.nmr h.2.1 (by rw [h.2.2.1]; decide)).2 h.2.2.1
theorem MH.rt (h : MH t c) : al t (bdI t (nm t c)) := by
  have hb2 : bdI t (nm t c) = bd t (nm t c).toNat := if_pos h.nr
  have hn := h.nr
  have hb := h.2.2.2.1
  rw [hb2] at hb ⊢
  exact ((h.1.2.2.1 (nm t c).toNat (by omega)).2.2.resolve_left hb).1
theorem MH.Dp (h : MH t c) : qD t c = pre t 40 1 (bdI t (nm t c)).toNat ∧ tr t 40 (bdI t (nm t c)).toNat := ⟨if_pos h.rt, h.1.trr h.rt⟩
theorem MH.s0 (h : MH t c) : 0 ≤ qs t c := (h.1.us _).1
/-- the first of the list is the body -/
theorem MH.D0 (h : MH t c) : ∃ D2, qD t c = ((bdI t (nm t c)).toNat, 1) :: D2 := ⟨_, h.Dp.1⟩
theorem pre_ch : ∀ {n d s x dx y : Nat}, (x, dx) ∈ pre t n d s → tr t n s → y ∈ ch t x → (y, dx + 1) ∈ pre t n d s
  | 0, _, _, _, _, _, _, h, _ => h.elim
  | n + 1, d, s, x, dx, y, hx, h, hy => by
    rcases mem_pre.mp hx with e | ⟨c', hc, hx⟩
    · cases e
      have h1 := h.2.2.2 y hy
      cases n with
      | zero => exact h1.elim
      | succ n => exact mem_pre.mpr (Or.inr ⟨y, hy, mem_pre.mpr (Or.inl rfl)⟩)
    · exact mem_pre.mpr (Or.inr ⟨c', hc, pre_ch hx (h.2.2.2 c' hc) hy⟩)
theorem ix_at {D : List (Nat × Nat)} {s d : Nat} (h : (s, d) ∈ D) : ix D s < D.length ∧ ∃ d', D[ix D s]? = some (s, d') := by
  have h1 : ix D s < D.length := List.findIdx_lt_length_of_exists ⟨(s, d), h, by simp⟩
  refine ⟨h1, ?_⟩
  have h2 := List.findIdx_getElem (xs := D) (p := fun q : Nat × Nat => q.1 == s) (w := h1)
  refine ⟨(D[ix D s]'h1).2, ?_⟩
  rw [List.getElem?_eq_getElem h1]
  have h3 : (D[ix D s]'h1).1 = s := by
    have h2 : ((D[ix D s]'h1).1 == s) = true := h2
    exact eq_of_beq h2
  exact congrArg some (Prod.ext h3 rfl)
theorem pw_at {D : List (Nat × Nat)} (hp : D.Pairwise (fun x y => x.1 ≠ y.1)) {i j : Nat} {x y : Nat × Nat} (hi : D[i]? = some x) (hj : D[j]? = some y) (e : x.1 = y.1) : i = j := by
  obtain ⟨hi1, hi2⟩ := List.getElem?_eq_some_iff.mp hi
  obtain ⟨hj1, hj2⟩ := List.getElem?_eq_some_iff.mp hj
  rw [List.pairwise_iff_getElem] at hp
  rcases Nat.lt_trichotomy i j with q | q | q
  · exact absurd (by rw [hi2, hj2]; exact e) (hp i j hi1 hj1 q)
  · exact q
  · exact absurd (by rw [hi2, hj2]; exact e.symm) (hp j i hj1 hi1 q)
theorem MH.nd (h : MH t c) : (qD t c).Pairwise (fun x y => x.1 ≠ y.1) := by
  rw [h.Dp.1]
  exact pre_nodup h.Dp.2
theorem dk_at {i : Nat} (hi : i < (qD t c).length) : ∃ d, (qD t c)[i]? = some (dk t c i, d) := by
  refine ⟨((qD t c).getD i (0, 0)).2, ?_⟩
  rw [List.getElem?_eq_getElem hi]
  unfold dk
  rw [List.getD_eq_getElem?_getD, List.getElem?_eq_getElem hi]
  rfl
theorem dk_mem {i : Nat} (hi : i < (qD t c).length) : ∃ d, (dk t c i, d) ∈ qD t c := by
  obtain ⟨d, h⟩ := dk_at hi
  exact ⟨d, List.mem_of_getElem? h⟩
theorem MH.ixk (h : MH t c) {i : Nat} (hi : i < (qD t c).length) : ix (qD t c) (dk t c i) = i := by
  obtain ⟨d, hm⟩ := dk_at hi
  obtain ⟨h1, d', h2⟩ := ix_at (List.mem_of_getElem? hm)
  exact pw_at h.nd h2 hm rfl
theorem MH.dkx (h : MH t c) {s d : Nat} (hs : (s, d) ∈ qD t c) : dk t c (ix (qD t c) s) = s := by
  obtain ⟨h1, d', h2⟩ := ix_at hs
  obtain ⟨e, h3⟩ := dk_at h1
  rw [h2] at h3
  injection h3 with h3
  exact (congrArg Prod.fst h3).symm
theorem MH.dkal (h : MH t c) {i : Nat} (hi : i < (qD t c).length) : dk t c i < mk t ∧ kd t (dk t c i) ≠ -1 := by
  obtain ⟨d, hm⟩ := dk_mem hi
  exact plist_at (q := (dk t c i, d)) h.1 hm
/-- parts of what is in the list are in it, behind -/
theorem MH.Dch (h : MH t c) {s d v : Nat} (hs : (s, d) ∈ qD t c) (hv : v ∈ ch t s) : (v, d + 1) ∈ qD t c := by
  rw [h.Dp.1] at hs ⊢
  exact pre_ch hs h.Dp.2 hv
theorem MH.Dup (h : MH t c) {s d : Nat} (hs : (s, d) ∈ qD t c) (hd : s ≠ (bdI t (nm t c)).toNat) : ∃ a d', up t s = ((a : Nat) : Int) ∧ (a, d') ∈ qD t c ∧ s ∈ ch t a := by
  have hal := plist_at (q := (s, d)) h.1 hs
  rw [h.Dp.1] at hs ⊢
  rcases pclos hs h.Dp.2 with ⟨e, _⟩ | ⟨y, h1, _, h3⟩
  · exact absurd e hd
  · refine ⟨y, d - 1, h1, h3, ?_⟩
    obtain ⟨_, k, hk, h4⟩ := h.1.2.2.2.2.2.2.2 s hal.1 hal.2 (by omega)
    rw [h1] at h4
    exact mem_ch.mpr ⟨k, hk, by have h4 : pt t y k = (s : Int) := h4; omega, by have h4 : pt t y k = (s : Int) := h4; omega⟩
theorem MH.dk0 (h : MH t c) : dk t c 0 = (bdI t (nm t c)).toNat ∧ 0 < (qD t c).length := by
  obtain ⟨D2, e⟩ := h.D0
  unfold dk
  rw [e]
  exact ⟨rfl, by simp⟩
/-- the body's first step is no part of one in its list -/
theorem MH.root (h : MH t c) {s d : Nat} (hs : (s, d) ∈ qD t c) : (bdI t (nm t c)).toNat ∉ ch t s := by
  intro hc
  rw [h.Dp.1] at hs
  have h1 := (pre_in hs h.Dp.2).2.2
  have h2 := tr_up h1 hc
  obtain ⟨_, h3, h4⟩ := h.1.2.2.1 (nm t c).toNat (by have := h.nr; omega)
  have hb2 : bdI t (nm t c) = bd t (nm t c).toNat := if_pos h.nr
  rw [← hb2] at h4
  rcases h4 with h4 | h4
  · exact h.2.2.2.1 h4
  · rw [h2] at h4
    have := h4.2
    omega
/-! which is which -/
theorem ds_b {k : Nat} (hk : k < qu t c) : ds t c (qb t c k) = (0, k) := by
  unfold ds qK qb
  by_cases q : k < qp t c
  · rw [if_pos (by omega)]
    exact Prod.ext (by show _ % 2 = 0; omega) (by show _ / 2 = k; omega)
  · rw [if_neg (by omega), if_pos (by omega)]
    exact Prod.ext (by show _ % 3 = 0; omega) (by show _ + _ / 3 = k; omega)
theorem ds_s {k : Nat} (hk : k < qu t c) : ds t c (qb t c k + 1) = (1, k) := by
  unfold ds qK qb
  by_cases q : k < qp t c
  · rw [if_pos (by omega)]
    exact Prod.ext (by show _ % 2 = 1; omega) (by show _ / 2 = k; omega)
  · rw [if_neg (by omega), if_pos (by omega)]
    exact Prod.ext (by show _ % 3 = 1; omega) (by show _ + _ / 3 = k; omega)
theorem ds_z {k : Nat} (hk : k < qu t c) (hp : qp t c ≤ k) : ds t c (qb t c k + 2) = (2, k) := by
  unfold ds qK qb
  rw [if_neg (by omega), if_pos (by omega)]
  exact Prod.ext (by show _ % 3 = 2; omega) (by show _ + _ / 3 = k; omega)
theorem MH.qKp (h : MH t c) : mk t + 2 * qp t c ≤ qK t c := by
  have := h.u4
  unfold qK qb
  omega
theorem ds_B (h : MH t c) : ds t c (qK t c) = (3, 0) := by
  have := h.qKp
  unfold ds
  rw [if_neg (by omega), if_neg (by omega), if_pos rfl]
theorem ds_t (h : MH t c) (i : Nat) : ds t c (qK t c + 1 + i) = (4, i) := by
  have := h.qKp
  unfold ds
  rw [if_neg (by omega), if_neg (by omega), if_neg (by omega)]
  exact Prod.ext rfl (by show _ - _ - _ = i; omega)
/-- each of the new steps is one of five -/
theorem new_is (h : MH t c) {s : Nat} (h1 : mk t ≤ s) (h2 : s < qE t c) : (∃ k, k < qu t c ∧ s = qb t c k) ∨ (∃ k, k < qu t c ∧ s = qb t c k + 1) ∨ (∃ k, k < qu t c ∧ qp t c ≤ k ∧ s = qb t c k + 2) ∨ s = qK t c ∨ ∃ i, i < (qD t c).length ∧ s = qK t c + 1 + i := by
  have h3 := h.u4
  unfold qE at h2
  by_cases a : s < mk t + 2 * qp t c
  · rcases (by omega : (s - mk t) % 2 = 0 ∨ (s - mk t) % 2 = 1) with e | e
    · exact Or.inl ⟨(s - mk t) / 2, by omega, by unfold qb; omega⟩
    · exact Or.inr (Or.inl ⟨(s - mk t) / 2, by omega, by unfold qb; omega⟩)
  · by_cases b : s < qK t c
    · unfold qK qb at b
      rcases (by omega : (s - mk t - 2 * qp t c) % 3 = 0 ∨ (s - mk t - 2 * qp t c) % 3 = 1 ∨ (s - mk t - 2 * qp t c) % 3 = 2) with e | e | e
      · exact Or.inl ⟨qp t c + (s - mk t - 2 * qp t c) / 3, by omega, by unfold qb; omega⟩
      · exact Or.inr (Or.inl ⟨qp t c + (s - mk t - 2 * qp t c) / 3, by omega, by unfold qb; omega⟩)
      · exact Or.inr (Or.inr (Or.inl ⟨qp t c + (s - mk t - 2 * qp t c) / 3, by omega, by omega, by unfold qb; omega⟩))
    · by_cases d : s = qK t c
      · exact Or.inr (Or.inr (Or.inr (Or.inl d)))
      · exact Or.inr (Or.inr (Or.inr (Or.inr ⟨s - qK t c - 1, by omega, by omega⟩)))
theorem qb_s {k : Nat} : qb t c (k + 1) = qb t c k + (if k < qp t c then 2 else 3) := by
  unfold qb
  split <;> omega
theorem qb_K {k : Nat} (hk : k < qu t c) : qb t c k + 2 ≤ qK t c ∧ (qp t c ≤ k → qb t c k + 3 ≤ qK t c) ∧ mk t ≤ qb t c k := by
  unfold qK qb
  omega
end ME
