/-! MELT: the state that comes of it, on both sides one -/
section ME7
variable {t : TV} {c : Nat}
noncomputable def FT (t : TV) (c : Nat) : TV := (fun r j =>
  if r = 0 then (if j = c then -1 else if j < mk t then kd t j else kN t c j)
  else if r = 1 then (if j = c then 0 else if j < mk t then nm t j else nN t c j)
  else if r = 3 then (if j = c then -4 else if j = mk t then up t c else if mk t < j then (uN t c j : Int) else if dC (∃ k, k < qp t c ∧ j = qx t c k) = true then (uN t c j : Int) else up t j)
  else if r = 2 then (if j / 3 = c then -4 else if j / 3 < mk t then (if t.1 2 j = (c : Int) then (mk t : Int) else t.1 2 j) else if pN t c (j / 3) (j % 3) < 0 then -4 else pN t c (j / 3) (j % 3))
  else if r = 5 then (if bd t j = (c : Int) then (mk t : Int) else bd t j)
  else t.1 r j, (qE t c, rt t))
theorem FT_k (s : Nat) : kd (FT t c) s = if s = c then -1 else if s < mk t then kd t s else kN t c s := rfl
theorem FT_n (s : Nat) : nm (FT t c) s = if s = c then 0 else if s < mk t then nm t s else nN t c s := rfl
theorem FT_u (s : Nat) : up (FT t c) s = if s = c then -4 else if s = mk t then up t c else if mk t < s then (uN t c s : Int) else if dC (∃ k, k < qp t c ∧ s = qx t c k) = true then (uN t c s : Int) else up t s := rfl
theorem FT_2 (j : Nat) : (FT t c).1 2 j = if j / 3 = c then -4 else if j / 3 < mk t then (if t.1 2 j = (c : Int) then (mk t : Int) else t.1 2 j) else if pN t c (j / 3) (j % 3) < 0 then -4 else pN t c (j / 3) (j % 3) := rfl
theorem FT_p {s k : Nat} (hk : k < 3) : pt (FT t c) s k = if s = c then -4 else if s < mk t then (if pt t s k = (c : Int) then (mk t : Int) else pt t s k) else if pN t c s k < 0 then -4 else pN t c s k := by
  show (FT t c).1 2 (3 * s + k) = _
  rw [FT_2, show (3 * s + k) / 3 = s by omega, show (3 * s + k) % 3 = k by omega]
theorem FT_b (r : Nat) : bd (FT t c) r = if bd t r = (c : Int) then (mk t : Int) else bd t r := rfl
theorem clr_at (t : TV) (s : Nat) (k v : Int) (r j : Nat) : (clr t s k v).1 r j = if r = 0 ∧ j = s then k else if r = 1 ∧ j = s then v else if r = 3 ∧ j = s then -4 else if r = 2 ∧ j / 3 = s then -4 else t.1 r j := rfl
theorem te_clr {a b : TV} (e : TE a b) (s : Nat) (k v : Int) : TE (clr a s k v) (clr b s k v) := by
  obtain ⟨e1, e2, e3, e4, e5⟩ := e
  refine ⟨e1, e2, fun x hx => ?_, fun j hj => ?_, fun r hr => ⟨?_, ?_⟩⟩
  · obtain ⟨a1, a2, a3⟩ := e3 x hx
    refine ⟨?_, ?_, ?_⟩
    · show (clr b s k v).1 0 x = (clr a s k v).1 0 x
      rw [clr_at, clr_at]
      rw [show b.1 0 x = a.1 0 x from a1]
    · show (clr b s k v).1 1 x = (clr a s k v).1 1 x
      rw [clr_at, clr_at]
      rw [show b.1 1 x = a.1 1 x from a2]
    · show (clr b s k v).1 3 x = (clr a s k v).1 3 x
      rw [clr_at, clr_at]
      rw [show b.1 3 x = a.1 3 x from a3]
  · rw [clr_at, clr_at, e4 j hj]
  · exact (e5 r hr).1
  · exact (e5 r hr).2
theorem te_tr {a b d : TV} (x : TE a b) (y : TE b d) : TE a d := by
  obtain ⟨e1, e2, e3, e4, e5⟩ := x
  obtain ⟨f1, f2, f3, f4, f5⟩ := y
  refine ⟨f1.trans e1, f2.trans e2, fun s hs => ?_, fun j hj => ?_, fun r hr => ?_⟩
  · obtain ⟨a1, a2, a3⟩ := e3 s hs
    obtain ⟨b1, b2, b3⟩ := f3 s (by omega)
    exact ⟨b1.trans a1, b2.trans a2, b3.trans a3⟩
  · exact (f4 j (by omega)).trans (e4 j hj)
  · obtain ⟨a1, a2⟩ := e5 r hr
    obtain ⟨b1, b2⟩ := f5 r (by omega)
    exact ⟨b1.trans a1, b2.trans a2⟩
/-- the call's place is taken -/
def YT (T t : TV) (c : Nat) : TV := (fun r j => if r = 5 then (if bd t j = (c : Int) then (mk t : Int) else bd t j) else if r = 3 ∧ j = mk t then up t c else if r = 3 ∧ j = c then -4 else if r = 2 ∧ up t c ≠ -4 ∧ j / 3 = (up t c).toNat ∧ T.1 2 j = (c : Int) then (mk t : Int) else T.1 r j, T.2)
theorem YT_at (T t : TV) (c r j : Nat) : (YT T t c).1 r j = if r = 5 then (if bd t j = (c : Int) then (mk t : Int) else bd t j) else if r = 3 ∧ j = mk t then up t c else if r = 3 ∧ j = c then -4 else if r = 2 ∧ up t c ≠ -4 ∧ j / 3 = (up t c).toNat ∧ T.1 2 j = (c : Int) then (mk t : Int) else T.1 r j := rfl
theorem mh_up (h : MH t c) : up t c = -4 ∨ (al t (up t c) ∧ c ∈ ch t (up t c).toNat ∧ up t c ≠ (c : Int)) := by
  have hk6 : kd t c ≠ -1 := by rw [h.2.2.1]; decide
  rcases up_al h.1 (al_n.mpr ⟨h.2.1, hk6⟩) with q | ⟨q1, q2⟩
  · left
    rwa [upI_at h.2.1] at q
  · right
    rw [upI_at h.2.1] at q1 q2
    refine ⟨q1, by simpa using q2, fun e => ?_⟩
    rw [e, Int.toNat_natCast] at q2
    have := rk_ch h.1 h.2.1 hk6 (by simpa using q2)
    omega
/-- the owner of the call: there is one just where nothing stands above it -/
theorem mh_own (h : MH t c) : (up t c = -4 → ∃ r : Nat, ow t (c : Int) = (r : Int) ∧ r < rt t ∧ bd t r = (c : Int) ∧ ∀ q, q < rt t → bd t q = (c : Int) → q = r) ∧ (up t c ≠ -4 → ow t (c : Int) = -4 ∧ ∀ q, q < rt t → bd t q ≠ (c : Int)) := by
  have hk6 : kd t c ≠ -1 := by rw [h.2.2.1]; decide
  have hal : al t (c : Int) := al_n.mpr ⟨h.2.1, hk6⟩
  have un : ∀ r, r < rt t → bd t r = (c : Int) → ∀ q, q < rt t → bd t q = (c : Int) → q = r := fun r hr hb q hq hb2 => Classical.byContradiction fun e => h.1.2.2.2.1 r q hr hq (fun z => e z.symm) (by rw [hb]; omega) (by rw [hb, hb2])
  constructor
  · intro hu
    have hh := h.2.2.2.2.1
    unfold home at hh
    rw [if_pos hal] at hh
    have er : root t 40 (c : Int) = (c : Int) := by
      show (if upI t (c : Int) = -4 then (c : Int) else root t 39 (upI t (c : Int))) = _
      rw [if_pos (by rw [upI_at h.2.1]; exact hu)]
    rw [er] at hh
    rcases owF_ge t (c : Int) (rt t) 0 with e | ⟨k, e, h1, h2, h3⟩
    · exact absurd e hh
    · exact ⟨k, e, by omega, h3, un k (by omega) h3⟩
  · intro hu
    have hno : ∀ q, q < rt t → bd t q ≠ (c : Int) := fun q hq e => by
      obtain ⟨_, _, h4⟩ := h.1.2.2.1 q hq
      rw [e] at h4
      rcases h4 with h4 | h4
      · omega
      · exact hu (by simpa using h4.2)
    refine ⟨?_, hno⟩
    rcases owF_ge t (c : Int) (rt t) 0 with e | ⟨k, e, h1, h2, h3⟩
    · exact e
    · exact absurd h3 (hno k (by omega))
theorem ow_cg {T : TV} (e2 : T.2.2 = t.2.2) (e5 : ∀ r, bd T r = bd t r) (z : Int) : ow T z = ow t z ∧ owL T z (rt T) = owL t z (rt t) := by
  have er : rt T = rt t := e2
  have k1 : ∀ n i, owF T z n i = owF t z n i := by
    intro n
    induction n with
    | zero => exact fun _ => rfl
    | succ n ih => exact fun i => by unfold owF; rw [e5, ih]
  have k2 : ∀ n, owL T z n = owL t z n := by
    intro n
    induction n with
    | zero => rfl
    | succ n ih => unfold owL; rw [e5, ih]
  exact ⟨by unfold ow; rw [er, k1], by rw [er, k2]⟩
theorem te_tkP (h : MH t c) {T : TV} (e2 : T.2.2 = t.2.2) (e5 : ∀ r, bd T r = bd t r) (eo : up T (mk t) = -4) (ec : up T c = up t c) (e4 : ∀ r, pr T r = pr t r) : TE (tkP T c (mk t)) (YT T t c) := by
  have el : lsn T (mk t) = T := by
    unfold lsn
    rw [if_pos eo]
  obtain ⟨o1, o2⟩ := mh_own h
  have hcm := h.2.1
  have er : rt T = rt t := e2
  unfold tkP
  rw [el, ec]
  by_cases c1 : up t c = -4
  · obtain ⟨r, q1, q2, q3, q4⟩ := o1 c1
    rw [if_pos c1, (ow_cg e2 e5 _).1, q1, if_pos (by omega), Int.toNat_natCast]
    refine ⟨rfl, rfl, fun s hs => ⟨?_, ?_, ?_⟩, fun j hj => ?_, fun r' hr' => ⟨?_, ?_⟩⟩
    · show (YT T t c).1 0 s = (tw T 5 r (mk t)).1 0 s
      rw [YT_at, tw_at, if_neg (by decide), if_neg (by omega), if_neg (by omega), if_neg (fun z => absurd z.1 (by decide)), if_neg (by omega)]
    · show (YT T t c).1 1 s = (tw T 5 r (mk t)).1 1 s
      rw [YT_at, tw_at, if_neg (by decide), if_neg (by omega), if_neg (by omega), if_neg (fun z => absurd z.1 (by decide)), if_neg (by omega)]
    · show (YT T t c).1 3 s = (tw T 5 r (mk t)).1 3 s
      rw [YT_at, tw_at, if_neg (by decide), if_neg (show ¬ ((3 : Nat) = 5 ∧ s = r) by omega)]
      by_cases z : s = mk t
      · rw [if_pos ⟨rfl, z⟩, c1, z]
        exact eo.symm
      · rw [if_neg (fun y => z y.2)]
        by_cases z2 : s = c
        · rw [if_pos ⟨rfl, z2⟩, z2, ← c1]
          exact ec.symm
        · rw [if_neg (fun y => z2 y.2), if_neg (fun y => absurd y.1 (by decide))]
    · rw [YT_at, tw_at, if_neg (by decide), if_neg (by omega), if_neg (by omega), if_neg (fun y => y.2.1 c1), if_neg (by omega)]
    · show (YT T t c).1 4 r' = (tw T 5 r (mk t)).1 4 r'
      rw [YT_at, tw_at, if_neg (by decide), if_neg (by omega), if_neg (by omega), if_neg (fun y => absurd y.1 (by decide)), if_neg (by omega)]
    · show (YT T t c).1 5 r' = (tw T 5 r (mk t)).1 5 r'
      have hr' : r' < rt T := hr'
      rw [YT_at, tw_at, if_pos rfl]
      by_cases z : r' = r
      · rw [if_pos (show (5 : Nat) = 5 ∧ r' = r from ⟨rfl, z⟩), z, if_pos q3]
      · rw [if_neg (show ¬ ((5 : Nat) = 5 ∧ r' = r) from fun y => z y.2), if_neg (fun y => z (q4 r' (by omega) y))]
        exact (e5 r').symm
  · obtain ⟨q1, q2⟩ := o2 c1
    obtain ⟨hal, _, hne⟩ := (mh_up h).resolve_left c1
    have ha0 := hal.1
    have ha1 := hal.2.1
    rw [if_neg c1]
    refine ⟨rfl, rfl, fun s hs => ⟨?_, ?_, ?_⟩, fun j hj => ?_, fun r' hr' => ⟨?_, ?_⟩⟩
    · show (YT T t c).1 0 s = (tw (tw (rpl T (up t c).toNat 3 c (mk t)) 3 (mk t) (up t c)) 3 c (-4)).1 0 s
      rw [YT_at, tw_at, tw_at, rpl_at, if_neg (by decide), if_neg (by omega), if_neg (by omega), if_neg (fun z => absurd z.1 (by decide)), if_neg (by omega), if_neg (by omega), if_neg (fun z => absurd z.1 (by decide))]
    · show (YT T t c).1 1 s = (tw (tw (rpl T (up t c).toNat 3 c (mk t)) 3 (mk t) (up t c)) 3 c (-4)).1 1 s
      rw [YT_at, tw_at, tw_at, rpl_at, if_neg (by decide), if_neg (by omega), if_neg (by omega), if_neg (fun z => absurd z.1 (by decide)), if_neg (by omega), if_neg (by omega), if_neg (fun z => absurd z.1 (by decide))]
    · show (YT T t c).1 3 s = (tw (tw (rpl T (up t c).toNat 3 c (mk t)) 3 (mk t) (up t c)) 3 c (-4)).1 3 s
      rw [YT_at, tw_at, tw_at, rpl_at, if_neg (by decide)]
      by_cases z : s = mk t
      · rw [if_pos (show (3 : Nat) = 3 ∧ s = mk t from ⟨rfl, z⟩), if_neg (show ¬ ((3 : Nat) = 3 ∧ s = c) by omega), if_pos (show (3 : Nat) = 3 ∧ s = mk t from ⟨rfl, z⟩)]
      · rw [if_neg (show ¬ ((3 : Nat) = 3 ∧ s = mk t) from fun y => z y.2)]
        by_cases z2 : s = c
        · rw [if_pos (show (3 : Nat) = 3 ∧ s = c from ⟨rfl, z2⟩), if_pos (show (3 : Nat) = 3 ∧ s = c from ⟨rfl, z2⟩)]
        · rw [if_neg (show ¬ ((3 : Nat) = 3 ∧ s = c) from fun y => z2 y.2), if_neg (show ¬ ((3 : Nat) = 3 ∧ s = c) from fun y => z2 y.2), if_neg (show ¬ ((3 : Nat) = 3 ∧ s = mk t) from fun y => z y.2), if_neg (fun y => absurd y.1 (by decide)), if_neg (fun y => absurd y.1 (by decide))]
    · rw [YT_at, tw_at, tw_at, rpl_at, if_neg (by decide), if_neg (by omega), if_neg (by omega), if_neg (show ¬ ((2 : Nat) = 3 ∧ j = c) by omega), if_neg (show ¬ ((2 : Nat) = 3 ∧ j = mk t) by omega)]
      by_cases z : j / 3 = (up t c).toNat ∧ T.1 2 j = (c : Int)
      · rw [if_pos ⟨rfl, c1, z⟩, if_pos ⟨rfl, z.1, by omega, z.2⟩]
      · rw [if_neg (fun y => z y.2.2), if_neg (fun y => z ⟨y.2.1, y.2.2.2⟩)]
    · show (YT T t c).1 4 r' = (tw (tw (rpl T (up t c).toNat 3 c (mk t)) 3 (mk t) (up t c)) 3 c (-4)).1 4 r'
      rw [YT_at, tw_at, tw_at, rpl_at, if_neg (by decide), if_neg (by omega), if_neg (by omega), if_neg (fun z => absurd z.1 (by decide)), if_neg (by omega), if_neg (by omega), if_neg (fun z => absurd z.1 (by decide))]
    · show (YT T t c).1 5 r' = (tw (tw (rpl T (up t c).toNat 3 c (mk t)) 3 (mk t) (up t c)) 3 c (-4)).1 5 r'
      have hr' : r' < rt T := hr'
      rw [YT_at, tw_at, tw_at, rpl_at, if_pos rfl, if_neg (q2 r' (by omega)), if_neg (show ¬ ((5 : Nat) = 3 ∧ r' = c) by omega), if_neg (show ¬ ((5 : Nat) = 3 ∧ r' = mk t) by omega), if_neg (fun z => absurd z.1 (by decide))]
      exact (e5 r').symm
theorem te_puP (h : MH t c) {T : TV} (e2 : T.2.2 = t.2.2) (e5 : ∀ r, bd T r = bd t r) (eo : up T (mk t) = -4) (ec : up T c = up t c) (e4 : ∀ r, pr T r = pr t r) : TE (puP T c (mk t)) (YT T t c) := by
  refine te_tr (b := tkP T c (mk t)) ?_ (te_tkP h e2 e5 eo ec e4)
  have el : lsn T (mk t) = T := by
    unfold lsn
    rw [if_pos eo]
  obtain ⟨o1, o2⟩ := mh_own h
  have hcm := h.2.1
  have er : rt T = rt t := e2
  have eL : owL T (c : Int) (rt T) = ow t (c : Int) := by
    rw [(ow_cg e2 e5 _).2]
    exact owL_eq h.1.2.2.2.1 (by omega)
  unfold tkP puP
  rw [el, ec, eL, (ow_cg e2 e5 _).1]
  by_cases c1 : up t c = -4
  · obtain ⟨r, q1, q2, q3, q4⟩ := o1 c1
    rw [if_pos c1, q1, if_pos (by omega), if_pos (by omega), Int.toNat_natCast, c1, rpl_0]
    refine ⟨rfl, rfl, fun s hs => ⟨?_, ?_, ?_⟩, fun j hj => ?_, fun r' hr' => ⟨?_, ?_⟩⟩
    · show (tw T 5 r (mk t)).1 0 s = (tw (tw (tw T 5 r (mk t)) 3 (mk t) (-4)) 3 c (-4)).1 0 s
      rw [tw_at (tw (tw T 5 r (mk t)) 3 (mk t) (-4)), tw_at (tw T 5 r (mk t)), if_neg (by omega), if_neg (by omega)]
    · show (tw T 5 r (mk t)).1 1 s = (tw (tw (tw T 5 r (mk t)) 3 (mk t) (-4)) 3 c (-4)).1 1 s
      rw [tw_at (tw (tw T 5 r (mk t)) 3 (mk t) (-4)), tw_at (tw T 5 r (mk t)), if_neg (by omega), if_neg (by omega)]
    · show (tw T 5 r (mk t)).1 3 s = (tw (tw (tw T 5 r (mk t)) 3 (mk t) (-4)) 3 c (-4)).1 3 s
      rw [tw_at (tw (tw T 5 r (mk t)) 3 (mk t) (-4)), tw_at (tw T 5 r (mk t)), tw_at, if_neg (show ¬ ((3 : Nat) = 5 ∧ s = r) by omega)]
      by_cases z2 : s = c
      · rw [if_pos (show (3 : Nat) = 3 ∧ s = c from ⟨rfl, z2⟩), z2, ← c1]
        exact ec
      · rw [if_neg (show ¬ ((3 : Nat) = 3 ∧ s = c) from fun y => z2 y.2)]
        by_cases z : s = mk t
        · rw [if_pos (show (3 : Nat) = 3 ∧ s = mk t from ⟨rfl, z⟩), z]
          exact eo
        · rw [if_neg (show ¬ ((3 : Nat) = 3 ∧ s = mk t) from fun y => z y.2)]
    · show (tw T 5 r (mk t)).1 2 j = (tw (tw (tw T 5 r (mk t)) 3 (mk t) (-4)) 3 c (-4)).1 2 j
      rw [tw_at (tw (tw T 5 r (mk t)) 3 (mk t) (-4)), tw_at (tw T 5 r (mk t)), if_neg (by omega), if_neg (by omega)]
    · show (tw T 5 r (mk t)).1 4 r' = (tw (tw (tw T 5 r (mk t)) 3 (mk t) (-4)) 3 c (-4)).1 4 r'
      rw [tw_at (tw (tw T 5 r (mk t)) 3 (mk t) (-4)), tw_at (tw T 5 r (mk t)), if_neg (by omega), if_neg (by omega)]
    · show (tw T 5 r (mk t)).1 5 r' = (tw (tw (tw T 5 r (mk t)) 3 (mk t) (-4)) 3 c (-4)).1 5 r'
      rw [tw_at (tw (tw T 5 r (mk t)) 3 (mk t) (-4)), tw_at (tw T 5 r (mk t)), if_neg (by omega), if_neg (by omega)]
  · obtain ⟨q1, q2⟩ := o2 c1
    obtain ⟨hal, _, hne⟩ := (mh_up h).resolve_left c1
    have ha0 := hal.1
    have ha1 := hal.2.1
    rw [if_neg c1, q1, if_neg (by omega), if_neg c1]
    refine TE.of (tv_ext (fun r j => ?_) rfl)
    simp only [tw_at, rpl_at]
    by_cases r3 : r = 3
    · subst r3
      simp
    · simp [r3]
theorem cY_0 (T : TV) (j : Nat) : (clr (YT T t c) c (-1) 0).1 0 j = if j = c then -1 else T.1 0 j := by
  rw [clr_at, YT_at]
  by_cases z : j = c <;> simp [z]
theorem cY_1 (T : TV) (j : Nat) : (clr (YT T t c) c (-1) 0).1 1 j = if j = c then 0 else T.1 1 j := by
  rw [clr_at, YT_at]
  by_cases z : j = c <;> simp [z]
theorem cY_3 (T : TV) (j : Nat) : (clr (YT T t c) c (-1) 0).1 3 j = if j = c then -4 else if j = mk t then up t c else T.1 3 j := by
  rw [clr_at, YT_at]
  by_cases z : j = c <;> simp [z]
theorem cY_2 (T : TV) (j : Nat) : (clr (YT T t c) c (-1) 0).1 2 j = if j / 3 = c then -4 else if up t c ≠ -4 ∧ j / 3 = (up t c).toNat ∧ T.1 2 j = (c : Int) then (mk t : Int) else T.1 2 j := by
  rw [clr_at, YT_at]
  by_cases z : j / 3 = c <;> simp [z]
theorem cY_4 (T : TV) (j : Nat) : (clr (YT T t c) c (-1) 0).1 4 j = T.1 4 j := by
  rw [clr_at, YT_at]
  simp
theorem cY_5 (T : TV) (j : Nat) : (clr (YT T t c) c (-1) 0).1 5 j = if bd t j = (c : Int) then (mk t : Int) else bd t j := by
  rw [clr_at, YT_at]
  simp
theorem te_FT (h : MH t c) {g : Bool} {lk : Nat → Bool} {jk : Nat} (I : lkI t c (qE t c) (qp t c) lk) : TE (clr (YT (CT t c g lk jk (qE t c)) t c) c (-1) 0) (FT t c) := by
  have hcm := h.2.1
  have hEd : qE t c = qK t c + 1 + (qD t c).length := rfl
  refine ⟨rfl, rfl, fun s hs => ⟨?_, ?_, ?_⟩, fun j hj => ?_, fun r hr => ⟨?_, ?_⟩⟩
  · show kd (FT t c) s = (clr (YT (CT t c g lk jk (qE t c)) t c) c (-1) 0).1 0 s
    rw [FT_k, cY_0]
    rfl
  · show nm (FT t c) s = (clr (YT (CT t c g lk jk (qE t c)) t c) c (-1) 0).1 1 s
    rw [FT_n, cY_1]
    rfl
  · show up (FT t c) s = (clr (YT (CT t c g lk jk (qE t c)) t c) c (-1) 0).1 3 s
    have hs : s < qE t c := hs
    rw [FT_u, cY_3]
    by_cases z : s = c
    · rw [if_pos z, if_pos z]
    · rw [if_neg z, if_neg z]
      by_cases z2 : s = mk t
      · rw [if_pos z2, if_pos z2]
      · rw [if_neg z2, if_neg z2]
        show _ = up (CT t c g lk jk (qE t c)) s
        rw [CT_u]
        by_cases z3 : mk t < s
        · rw [if_pos z3, if_pos ((I s).mpr (Or.inl ⟨z3, hs⟩))]
        · rw [if_neg z3]
          by_cases z4 : ∃ k, k < qp t c ∧ s = qx t c k
          · obtain ⟨k, k1, k2⟩ := z4
            rw [if_pos (dC_t ⟨k, k1, k2⟩), if_pos ((I s).mpr (Or.inr ⟨k, k1, k1, k2⟩))]
          · have hl : lk s ≠ true := fun y => by
              rcases (I s).mp y with e | ⟨k, k1, k2, k3⟩
              · omega
              · exact z4 ⟨k, k2, k3⟩
            rw [if_neg (fun y => z4 (dC_iff.mp y)), if_neg hl, if_pos (by omega)]
  · have hj : j < 3 * qE t c := hj
    rw [FT_2, cY_2]
    by_cases z : j / 3 = c
    · rw [if_pos z, if_pos z]
    · rw [if_neg z, if_neg z]
      by_cases z1 : j / 3 < mk t
      · have e1 : (CT t c g lk jk (qE t c)).1 2 j = t.1 2 j := by
          rw [CT_2, if_pos z1, if_neg (fun y => z y.2.1)]
        rw [if_pos z1, e1]
        by_cases z2 : t.1 2 j = (c : Int)
        · have e3 : t.1 2 j = pt t (j / 3) (j % 3) := by
            show _ = t.1 2 (3 * (j / 3) + j % 3)
            rw [show 3 * (j / 3) + j % 3 = j by omega]
          have hk1 : kd t (j / 3) ≠ -1 := fun e => by
            have := ((h.1.2.2.2.2.1 (j / 3) z1).2.2 e).2.2 (j % 3) (by omega)
            omega
          have hu : up t c = ((j / 3 : Nat) : Int) := by
            rcases h.1.lk z1 hk1 (j % 3) (by omega) with q | ⟨_, q, _⟩
            · omega
            · rw [← e3, z2, Int.toNat_natCast] at q
              exact q
          rw [if_pos z2, if_pos ⟨by omega, by omega, z2⟩]
        · rw [if_neg z2, if_neg (fun y => z2 y.2.2)]
      · have hno : ¬ (up t c ≠ -4 ∧ j / 3 = (up t c).toNat ∧ (CT t c g lk jk (qE t c)).1 2 j = (c : Int)) := by
          rintro ⟨y1, y2, _⟩
          have := ((mh_up h).resolve_left y1).1
          have h1 := this.1
          have h2 := this.2.1
          omega
        rw [if_neg z1, if_neg hno, CT_2, if_neg z1]
        by_cases z2 : pN t c (j / 3) (j % 3) < 0
        · rw [if_pos z2, if_pos z2]
        · obtain ⟨-, -, u3, -, u5⟩ := pN_u h (a := j / 3) (j := j % 3) (by omega) (by omega) (by omega) rfl (by omega)
          have hl : lk (pN t c (j / 3) (j % 3)).toNat = true := by
            refine (I _).mpr ?_
            rcases u5 with ⟨k, k1, k2, _⟩ | e
            · exact Or.inr ⟨k, k1, k1, k2⟩
            · exact Or.inl ⟨e, u3⟩
          rw [if_neg z2, if_neg z2, if_pos hl]
  · show pr t r = (clr (YT (CT t c g lk jk (qE t c)) t c) c (-1) 0).1 4 r
    rw [cY_4]
    rfl
  · show bd (FT t c) r = (clr (YT (CT t c g lk jk (qE t c)) t c) c (-1) 0).1 5 r
    rw [cY_5]
    rfl
end ME7
