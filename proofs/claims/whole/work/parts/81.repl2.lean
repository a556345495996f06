/-! AHEAD: a place is taken, on both sides -/
section RP2
variable {t : TV} {s p : Nat}
theorem TP.uq (w : WF t) (h : TP t s p) : (up t p = (s : Int) ∧ p ∈ ch t s) ∨ (up t p = -4 ∧ p ∉ ch t s) := by
  obtain ⟨⟨s1, s2⟩, ⟨p1, p2⟩, hc⟩ := h
  rcases hc with q | ⟨q, _⟩
  · exact Or.inl ⟨tr_up (w.tr' s1 s2) q, q⟩
  · right
    have hu := q.2.1
    rw [upI_at p1] at hu
    refine ⟨hu, fun e => ?_⟩
    have := tr_up (w.tr' s1 s2) e
    omega
/-- in the state with the place taken: what is gone is closed, and the least that is -/
theorem GS_ch (w : WF t) (h : TP t s p) {x y : Nat} (hx : GS t s p x = true) (hy : y ∈ ch (TT t s p) x) : GS t s p y = true ∧ y ∈ ch t x ∧ y ≠ p ∧ y ≠ s := by
  have hps := h.ps w
  have hu := h.uq w
  have pc := h.pc w
  obtain ⟨⟨s1, s2⟩, ⟨p1, p2⟩, _⟩ := h
  obtain ⟨e1, e2⟩ := GS_at.mp hx
  have hxa := inT_al w s1 s2 e1
  obtain ⟨k, hk, h0, rfl⟩ := mem_ch.mp hy
  rw [TT_p hk] at h0 ⊢
  split at h0
  · exact absurd h0 (by decide)
  · rename_i z1
    rw [if_neg z1]
    split at h0
    · rename_i z2
      have hn := pc.2.2.2.2.2.2.2.2.2.2.2 (up t s).toNat (by
        rcases up_al w (al_n.mpr ⟨s1, s2⟩) with q | ⟨q1, q2⟩
        · rw [upI_at s1] at q
          exact absurd q z2.1
        · rw [upI_at s1] at q1
          have := q1.1
          omega)
      rw [← z2.2.1] at hn
      exact absurd hx hn
    · rename_i z2
      rw [if_neg z2]
      have hyc : (pt t x k).toNat ∈ ch t x := mem_ch.mpr ⟨k, hk, h0, rfl⟩
      have hyu := tr_up (w.tr' hxa.1 hxa.2) hyc
      have hyp : (pt t x k).toNat ≠ p := fun e => by
        rw [e] at hyu
        rcases hu with ⟨q, _⟩ | ⟨q, _⟩
        · exact z1 ⟨by omega, by omega⟩
        · omega
      have hys : (pt t x k).toNat ≠ s := fun e => inT_no w s1 s2 e1 (by rw [← e]; exact hyc)
      refine ⟨GS_at.mpr ⟨inT_ch w s1 s2 e1 hyc, fun z => ?_⟩, hyc, hyp, hys⟩
      rcases inT_up w p1 p2 z with q | ⟨a, q1, q2⟩
      · exact hyp q
      · have : a = x := by omega
        rw [this] at q2
        exact e2 q2
theorem GS_ch' (w : WF t) (h : TP t s p) {x y : Nat} (hx : GS t s p x = true) (hy : y ∈ ch t x) (hyp : y ≠ p) : y ∈ ch (TT t s p) x := by
  have pc := h.pc w
  obtain ⟨⟨s1, s2⟩, ⟨p1, p2⟩, _⟩ := h
  obtain ⟨k, hk, h0, rfl⟩ := mem_ch.mp hy
  refine mem_ch.mpr ⟨k, hk, ?_⟩
  rw [TT_p hk, if_neg (fun z => hyp (by have := z.2; omega)), if_neg]
  · exact ⟨h0, rfl⟩
  · intro z2
    have hn := pc.2.2.2.2.2.2.2.2.2.2.2 (up t s).toNat (by
      rcases up_al w (al_n.mpr ⟨s1, s2⟩) with q | ⟨q1, q2⟩
      · rw [upI_at s1] at q
        exact absurd q z2.1
      · rw [upI_at s1] at q1
        have := q1.1
        omega)
    rw [← z2.2.1] at hn
    exact hn hx
theorem GS_least (w : WF t) (h : TP t s p) {C : Nat → Prop} (h0 : C s) (hC : ∀ x, C x → ∀ y ∈ ch (TT t s p) x, C y) : ∀ x, GS t s p x = true → C x := by
  have h' := h
  obtain ⟨⟨s1, s2⟩, ⟨p1, p2⟩, _⟩ := h
  have key : ∀ n x d, d ≤ n → (x, d) ∈ pre t 40 1 s → GS t s p x = true → C x := by
    intro n
    induction n with
    | zero =>
      intro x d hd hx _
      have := (pre_in hx (w.tr' s1 s2)).1
      omega
    | succ n ih =>
      intro x d hd hx hg
      rcases pclos hx (w.tr' s1 s2) with ⟨e, _⟩ | ⟨a, h1, h2, h3⟩
      · rw [e]
        exact h0
      · obtain ⟨g1, g2⟩ := GS_at.mp hg
        have hxa := inT_al w s1 s2 g1
        have hxc : x ∈ ch t a := by
          rcases up_al w (al_n.mpr hxa) with q | ⟨_, q2⟩
          · rw [upI_at hxa.1] at q
            omega
          · rw [upI_at hxa.1, h1] at q2
            simpa using q2
        have hga : GS t s p a = true := GS_at.mpr ⟨⟨_, h3⟩, fun z => g2 (inT_ch w p1 p2 z hxc)⟩
        have hxp : x ≠ p := fun e => g2 (by rw [e]; exact inT_s w)
        exact hC a (ih a (d - 1) (by omega) h3 hga) x (GS_ch' w h' hga hxc hxp)
  intro x hg
  obtain ⟨⟨d, hd⟩, _⟩ := GS_at.mp hg
  exact key d x d (Nat.le_refl _) hd hg
theorem TT_tr (w : WF t) (h : TP t s p) : ∀ (n x : Nat), GS t s p x = true → rk t x ≤ n → tr (TT t s p) n x
  | 0, x, hg, hr => by
    have := inT_al w h.1.1 h.1.2 (GS_at.mp hg).1
    have := rk_pos w this.1 this.2
    omega
  | n + 1, x, hg, hr => by
    have hxa := inT_al w h.1.1 h.1.2 (GS_at.mp hg).1
    refine ⟨hxa.1, hxa.2, fun k hk => ?_, fun y hy => ?_⟩
    · by_cases h0 : pt (TT t s p) x k < 0
      · exact Or.inl h0
      · obtain ⟨_, g2, g3, g4⟩ := GS_ch w h hg (mem_ch.mpr ⟨k, hk, by omega, rfl⟩)
        have e : pt (TT t s p) x k = pt t x k := by
          rw [TT_p hk] at h0 g3 ⊢
          split
          · rename_i z
            rw [if_pos z] at h0
            omega
          · rename_i z
            rw [if_neg z] at h0 g3
            split
            · rename_i z2
              rw [if_pos z2] at g3
              omega
            · rfl
        have hya := ch_al w hxa.1 hxa.2 g2
        have hyu := tr_up (w.tr' hxa.1 hxa.2) g2
        refine Or.inr ⟨by show pt (TT t s p) x k < (mk t : Int); omega, ?_, fun j hj hne => ?_⟩
        · rw [TT_u, if_neg g3, if_neg g4]
          exact hyu
        · rw [e] at h0 g3 ⊢
          rw [TT_p hj]
          rcases w.lk hxa.1 hxa.2 k hk with q | ⟨_, _, q⟩
          · omega
          · have := q j hj hne
            split
            · omega
            · split
              · omega
              · exact this
    · obtain ⟨g1, g2, _, _⟩ := GS_ch w h hg hy
      have := rk_ch w hxa.1 hxa.2 g2
      exact TT_tr w h n y g1 (by omega)
theorem pre_sub {T : TV} {C : Nat → Prop} (hC : ∀ x, C x → ∀ y ∈ ch T x, C y) : ∀ (n d x : Nat), C x → ∀ q ∈ pre T n d x, C q.1
  | 0, _, _, _, q, hq => by cases hq
  | n + 1, d, x, hx, q, hq => by
    rcases mem_pre.mp hq with e | ⟨c, hc, hq⟩
    · rw [e]
      exact hx
    · exact pre_sub hC n (d + 1) c (hC x hx c hc) q hq
theorem TT_set (w : WF t) (h : TP t s p) : ∀ x, (∃ d, (x, d) ∈ plist (TT t s p) (s : Int)) ↔ GS t s p x = true := by
  have gs := (h.pc w).2.2.1
  have htr := TT_tr w h 40 s gs (rk_pos w h.1.1 h.1.2).2
  have epl : plist (TT t s p) (s : Int) = pre (TT t s p) 40 1 s := plist_al (al_n.mpr ⟨h.1.1, h.1.2⟩)
  rw [epl]
  intro x
  constructor
  · rintro ⟨d, hd⟩
    exact pre_sub (fun x hx y hy => (GS_ch w h hx hy).1) 40 1 s gs (x, d) hd
  · exact GS_least w h (C := fun x => ∃ d, (x, d) ∈ pre (TT t s p) 40 1 s) ⟨1, mem_pre.mpr (Or.inl rfl)⟩ (fun x ⟨d, hd⟩ y hy => ⟨d + 1, pre_ch hd htr hy⟩) x
/-- cutting a part off -/
def cB (t : TV) (s p : Nat) : TV := rpl t s 3 p (-4)
theorem cB_at (r j : Nat) : (cB t s p).1 r j = if r = 2 ∧ j / 3 = s ∧ t.1 2 j = (p : Int) then -4 else t.1 r j := by
  unfold cB
  rw [rpl_at]
  by_cases q : r = 2 ∧ j / 3 = s ∧ t.1 2 j = (p : Int)
  · rw [if_pos q, if_pos ⟨q.1, q.2.1, by omega, q.2.2⟩]
  · rw [if_neg q, if_neg (fun z => q ⟨z.1, z.2.1, z.2.2.2⟩)]
theorem te_lsn (w : WF t) (h : TP t s p) : TE (tw (cB t s p) 3 p (-4)) (lsn t p) := by
  rcases h.uq w with ⟨q, _⟩ | ⟨q, hn⟩
  · refine TE.of ?_
    unfold lsn
    rw [if_neg (by omega), q]
    rfl
  · unfold lsn
    rw [if_pos q]
    have e : ∀ r j, j < 3 * mk t → (tw (cB t s p) 3 p (-4)).1 r j = t.1 r j := fun r j hj => by
      rw [tw_at, cB_at]
      by_cases z : r = 3 ∧ j = p
      · rw [if_pos z, z.1, z.2]
        exact q.symm
      · rw [if_neg z, if_neg]
        rintro ⟨_, z2, z3⟩
        apply hn
        refine mem_ch.mpr ⟨j % 3, by omega, ?_⟩
        have e3 : t.1 2 j = pt t s (j % 3) := by
          show _ = t.1 2 (3 * s + j % 3)
          rw [show 3 * s + j % 3 = j by omega]
        rw [← e3, z3]
        exact ⟨by omega, by omega⟩
    have e0 : ∀ r j, r ≠ 2 → r ≠ 3 → (tw (cB t s p) 3 p (-4)).1 r j = t.1 r j := fun r j h2 h3 => by
      rw [tw_at, cB_at, if_neg (by omega), if_neg (by omega)]
    have e3 : ∀ j, (tw (cB t s p) 3 p (-4)).1 3 j = t.1 3 j := fun j => by
      rw [tw_at, cB_at]
      by_cases z : j = p
      · rw [if_pos ⟨rfl, z⟩, z]
        exact q.symm
      · rw [if_neg (fun y => z y.2), if_neg (by omega)]
    refine ⟨rfl, rfl, fun x hx => ⟨(e0 0 x (by decide) (by decide)).symm, (e0 1 x (by decide) (by decide)).symm, (e3 x).symm⟩, fun j hj => (e 2 j hj).symm, fun r hr => ⟨(e0 4 r (by decide) (by decide)).symm, (e0 5 r (by decide) (by decide)).symm⟩⟩
theorem ow_s (w : WF t) (hs : s < mk t) (hk : kd t s ≠ -1) : (up t s ≠ -4 → ∀ r, r < rt t → bd t r ≠ (s : Int)) ∧ ((∃ r : Nat, ow t (s : Int) = (r : Int) ∧ r < rt t ∧ bd t r = (s : Int) ∧ ∀ q, q < rt t → bd t q = (s : Int) → q = r) ∨ (ow t (s : Int) = -4 ∧ ∀ r, r < rt t → bd t r ≠ (s : Int))) := by
  refine ⟨fun hu r hr e => ?_, ?_⟩
  · obtain ⟨_, _, h4⟩ := w.2.2.1 r hr
    rw [e] at h4
    rcases h4 with h4 | h4
    · omega
    · have := h4.2
      rw [Int.toNat_natCast] at this
      exact hu this
  · rcases owF_ge t (s : Int) (rt t) 0 with e | ⟨k, e, _, h2, h3⟩
    · exact Or.inr ⟨e, fun r hr => owF_none e r (Nat.zero_le _) (by omega)⟩
    · refine Or.inl ⟨k, e, by omega, h3, fun q hq hb => Classical.byContradiction fun z => w.2.2.2.1 k q (by omega) hq (fun y => z y.symm) (by omega) (by omega)⟩
/-- the class's way of taking a place -/
theorem te_TT (w : WF t) (h : TP t s p) {T : TV} (e2 : T.2 = t.2) (eB : ∀ r j, (r = 2 → j < 3 * mk t) → T.1 r j = if r = 3 ∧ j = p then -4 else if r = 2 ∧ j / 3 = s ∧ t.1 2 j = (p : Int) then -4 else t.1 r j) : TE (if up t s = -4 then (if 0 ≤ ow t (s : Int) then tw T 5 (ow t (s : Int)).toNat p else T) else tw (tw (rpl T (up t s).toNat 3 s p) 3 p (up t s)) 3 s (-4)) (TT t s p) := by
  have hps := (h.ps w).2
  obtain ⟨⟨s1, s2⟩, ⟨p1, p2⟩, _⟩ := h
  obtain ⟨o1, o2⟩ := ow_s w s1 s2
  have er : rt T = rt t := congrArg Prod.snd e2
  have em : mk T = mk t := congrArg Prod.fst e2
  have b0 : ∀ j, T.1 0 j = t.1 0 j := fun j => by rw [eB 0 j (by omega), if_neg (by omega), if_neg (by omega)]
  have b1 : ∀ j, T.1 1 j = t.1 1 j := fun j => by rw [eB 1 j (by omega), if_neg (by omega), if_neg (by omega)]
  have b4 : ∀ j, T.1 4 j = t.1 4 j := fun j => by rw [eB 4 j (by omega), if_neg (by omega), if_neg (by omega)]
  have b5 : ∀ j, T.1 5 j = t.1 5 j := fun j => by rw [eB 5 j (by omega), if_neg (by omega), if_neg (by omega)]
  have b3 : ∀ j, T.1 3 j = if j = p then -4 else t.1 3 j := fun j => by
    rw [eB 3 j (by omega)]
    by_cases z : j = p
    · rw [if_pos ⟨rfl, z⟩, if_pos z]
    · rw [if_neg (fun y => z y.2), if_neg (by omega), if_neg z]
  have b2 : ∀ j, j < 3 * mk t → T.1 2 j = if j / 3 = s ∧ t.1 2 j = (p : Int) then -4 else t.1 2 j := fun j hj => by
    rw [eB 2 j (fun _ => hj), if_neg (by omega)]
    by_cases z : j / 3 = s ∧ t.1 2 j = (p : Int)
    · rw [if_pos ⟨rfl, z⟩, if_pos z]
    · rw [if_neg (fun y => z y.2), if_neg z]
  by_cases c : up t s = -4
  · rw [if_pos c]
    have main : ∀ U : TV, U.2 = t.2 → (∀ r j, r ≠ 5 → U.1 r j = T.1 r j) → (∀ r, r < rt t → U.1 5 r = if t.1 5 r = (s : Int) then (p : Int) else t.1 5 r) → TE U (TT t s p) := by
      intro U u2 uo u5
      have um : mk U = mk t := congrArg Prod.fst u2
      have ur : rt U = rt t := congrArg Prod.snd u2
      refine ⟨um.symm, ur.symm, fun x hx => ⟨?_, ?_, ?_⟩, fun j hj => ?_, fun r hr => ⟨?_, ?_⟩⟩
      · exact ((uo 0 x (by decide)).trans (b0 x)).symm
      · exact ((uo 1 x (by decide)).trans (b1 x)).symm
      · show up (TT t s p) x = U.1 3 x
        rw [TT_u, uo 3 x (by decide), b3]
        by_cases z : x = p
        · rw [if_pos z, if_pos z, c]
        · rw [if_neg z, if_neg z]
          by_cases z2 : x = s
          · rw [if_pos z2, z2]
            exact c.symm
          · rw [if_neg z2]
      · rw [TT_2, uo 2 j (by decide), b2 j (by omega)]
        by_cases z : j / 3 = s ∧ t.1 2 j = (p : Int)
        · rw [if_pos z, if_pos z]
        · rw [if_neg z, if_neg z, if_neg (fun y => y.1 c)]
      · exact ((uo 4 r (by decide)).trans (b4 r)).symm
      · exact (u5 r (by omega)).symm
    rcases o2 with ⟨r, q1, q2, q3, q4⟩ | ⟨q1, q2⟩
    · rw [q1, if_pos (by omega), Int.toNat_natCast]
      refine main _ e2 (fun r' j h5 => by rw [tw_at, if_neg (by omega)]) (fun r' hr' => ?_)
      rw [tw_at]
      by_cases z : r' = r
      · rw [if_pos ⟨rfl, z⟩, z, if_pos q3]
      · rw [if_neg (fun y => z y.2), b5, if_neg (fun y => z (q4 r' hr' y))]
    · rw [q1, if_neg (by omega)]
      exact main T e2 (fun _ _ _ => rfl) (fun r hr => by rw [b5, if_neg (q2 r hr)])
  · rw [if_neg c]
    have hno := o1 c
    obtain ⟨a, ha⟩ : ∃ a : Nat, up t s = (a : Int) := by
      rcases up_al w (al_n.mpr ⟨s1, s2⟩) with q | ⟨q1, _⟩
      · rw [upI_at s1] at q
        exact absurd q c
      · rw [upI_at s1] at q1
        exact ⟨_, (Int.toNat_of_nonneg q1.1).symm⟩
    have has : a ≠ s := fun e => by
      rcases up_al w (al_n.mpr ⟨s1, s2⟩) with q | ⟨q1, q2⟩
      · rw [upI_at s1] at q
        exact c q
      · rw [upI_at s1, ha, e, Int.toNat_natCast] at q2
        have := rk_ch w s1 s2 q2
        omega
    refine ⟨em.symm, er.symm, fun x hx => ⟨?_, ?_, ?_⟩, fun j hj => ?_, fun r hr => ⟨?_, ?_⟩⟩
    · show kd (TT t s p) x = (tw (tw (rpl T (up t s).toNat 3 s p) 3 p (up t s)) 3 s (-4)).1 0 x
      rw [tw_at, tw_at, rpl_at, if_neg (by omega), if_neg (by omega), if_neg (fun y => absurd y.1 (by decide)), b0]
      rfl
    · show nm (TT t s p) x = (tw (tw (rpl T (up t s).toNat 3 s p) 3 p (up t s)) 3 s (-4)).1 1 x
      rw [tw_at, tw_at, rpl_at, if_neg (by omega), if_neg (by omega), if_neg (fun y => absurd y.1 (by decide)), b1]
      rfl
    · show up (TT t s p) x = (tw (tw (rpl T (up t s).toNat 3 s p) 3 p (up t s)) 3 s (-4)).1 3 x
      rw [TT_u, tw_at, tw_at, rpl_at]
      by_cases z2 : x = s
      · rw [if_pos (show (3 : Nat) = 3 ∧ x = s from ⟨rfl, z2⟩), if_neg (fun e => hps (by omega)), if_pos z2]
      · rw [if_neg (show ¬ ((3 : Nat) = 3 ∧ x = s) from fun y => z2 y.2)]
        by_cases z : x = p
        · rw [if_pos z, if_pos (show (3 : Nat) = 3 ∧ x = p from ⟨rfl, z⟩)]
        · rw [if_neg z, if_neg z2, if_neg (show ¬ ((3 : Nat) = 3 ∧ x = p) from fun y => z y.2), if_neg (fun y => absurd y.1 (by decide)), b3, if_neg z]
    · have hj : j < 3 * mk T := hj
      have hjm : j < 3 * mk t := by omega
      have hv := b2 j hjm
      rw [TT_2, tw_at, tw_at, rpl_at, if_neg (show ¬ ((2 : Nat) = 3 ∧ j = s) by omega), if_neg (show ¬ ((2 : Nat) = 3 ∧ j = p) by omega)]
      by_cases z : j / 3 = s ∧ t.1 2 j = (p : Int)
      · rw [if_pos z] at hv
        rw [if_pos z, if_neg (fun y => by have := y.2.2.2; omega)]
        exact hv.symm
      · rw [if_neg z] at hv
        rw [if_neg z, hv]
        by_cases z2 : j / 3 = (up t s).toNat ∧ t.1 2 j = (s : Int)
        · rw [if_pos ⟨c, z2⟩, if_pos ⟨rfl, z2.1, by omega, z2.2⟩]
        · rw [if_neg (fun y => z2 y.2), if_neg (fun y => z2 ⟨y.2.1, y.2.2.2⟩)]
    · show pr (TT t s p) r = (tw (tw (rpl T (up t s).toNat 3 s p) 3 p (up t s)) 3 s (-4)).1 4 r
      rw [tw_at, tw_at, rpl_at, if_neg (by omega), if_neg (by omega), if_neg (fun y => absurd y.1 (by decide)), b4]
      rfl
    · show bd (TT t s p) r = (tw (tw (rpl T (up t s).toNat 3 s p) 3 p (up t s)) 3 s (-4)).1 5 r
      have hr : r < rt T := hr
      rw [tw_at, tw_at, rpl_at, if_neg (by omega), if_neg (by omega), if_neg (fun y => absurd y.1 (by decide)), b5]
      show (if t.1 5 r = (s : Int) then (p : Int) else t.1 5 r) = _
      rw [if_neg (hno r (by omega))]
theorem te_tkT (w : WF t) (h : TP t s p) : TE (tkP t s p) (TT t s p) := by
  have hps := (h.ps w).2
  have hl := te_lsn w h
  obtain ⟨f1, f2, f3, f4, f5⟩ := hl
  have e2 : (lsn t p).2 = t.2 := lsn_2 t p
  have eB : ∀ r j, (r = 2 → j < 3 * mk t) → (lsn t p).1 r j = if r = 3 ∧ j = p then -4 else if r = 2 ∧ j / 3 = s ∧ t.1 2 j = (p : Int) then -4 else t.1 r j := fun r j hr => by
    by_cases r2 : r = 2
    · subst r2
      rw [if_neg (by omega), f4 j (hr rfl), tw_at, if_neg (by omega), cB_at]
    · rw [if_neg (show ¬ (r = 2 ∧ _) from fun y => r2 y.1)]
      by_cases z : r = 3 ∧ j = p
      · rw [if_pos z, z.1, z.2]
        have := (f3 p (by show p < mk t; exact h.2.1.1)).2.2
        have h9 : (lsn t p).1 3 p = (tw (cB t s p) 3 p (-4)).1 3 p := this
        rw [h9, tw_at, if_pos ⟨rfl, rfl⟩]
      · rw [if_neg z]
        exact lsn_0 t p r j r2 (by
          by_cases r3 : r = 3
          · exact Or.inr (fun e => z ⟨r3, e⟩)
          · exact Or.inl r3)
  have := te_TT w h e2 eB
  have eu : up (lsn t p) s = up t s := by
    show (lsn t p).1 3 s = _
    rw [eB 3 s (by omega), if_neg (fun y => hps y.2.symm), if_neg (by omega)]
  have eo : ow (lsn t p) (s : Int) = ow t (s : Int) := (ow_cg (t := t) (T := lsn t p) (congrArg Prod.snd e2) (fun r => by
    show (lsn t p).1 5 r = _
    rw [eB 5 r (by omega), if_neg (by omega), if_neg (by omega)]) _).1
  unfold tkP
  rw [eu, eo]
  exact this
/-- the reference's way -/
theorem te_puT (w : WF t) (h : TP t s p) : TE (puP (cB t s p) s p) (TT t s p) := by
  have hps := (h.ps w).2
  have hl := te_tkT w h
  refine te_tr (b := tkP t s p) ?_ hl
  obtain ⟨f1, f2, f3, f4, f5⟩ := te_lsn w h
  have e2 : (lsn t p).2 = t.2 := lsn_2 t p
  have l5 : ∀ r, (lsn t p).1 5 r = t.1 5 r := fun r => lsn_0 t p 5 r (by decide) (Or.inl (by decide))
  have l3 : ∀ j, j ≠ p → (lsn t p).1 3 j = t.1 3 j := fun j hj => lsn_0 t p 3 j (by decide) (Or.inr hj)
  have l0 : ∀ r j, r ≠ 2 → r ≠ 3 → (lsn t p).1 r j = t.1 r j := fun r j h2 h3 => lsn_0 t p r j h2 (Or.inl h3)
  have l2 : ∀ j, j < 3 * mk t → (lsn t p).1 2 j = (cB t s p).1 2 j := fun j hj => by
    rw [f4 j hj, tw_at, if_neg (by omega)]
  have c0 : ∀ r j, r ≠ 2 → (cB t s p).1 r j = t.1 r j := fun r j h2 => by rw [cB_at, if_neg (fun y => h2 y.1)]
  have eu : up (lsn t p) s = up t s := l3 s (fun e => hps e.symm)
  have eu2 : up (cB t s p) s = up t s := c0 3 s (by decide)
  have o1 : ow (lsn t p) (s : Int) = ow t (s : Int) := (ow_cg (t := t) (T := lsn t p) (congrArg Prod.snd e2) l5 _).1
  have o2 : owL (cB t s p) (s : Int) (rt (cB t s p)) = ow t (s : Int) := by
    rw [(ow_cg (t := t) (T := cB t s p) rfl (fun r => c0 5 r (by decide)) _).2]
    exact owL_eq w.2.2.2.1 (by omega)
  have em : mk (lsn t p) = mk t := congrArg Prod.fst e2
  have er : rt (lsn t p) = rt t := congrArg Prod.snd e2
  obtain ⟨w1, w2⟩ := ow_s w h.1.1 h.1.2
  unfold tkP puP
  rw [eu, eu2, o1, o2]
  by_cases c : up t s = -4
  · rw [if_pos c, if_pos c, c, rpl_0]
    have main : ∀ (U V : TV), U.2 = t.2 → V.2 = t.2 → (∀ r j, r ≠ 5 → U.1 r j = (lsn t p).1 r j) → (∀ r j, r ≠ 5 → V.1 r j = (tw (tw (cB t s p) 3 p (-4)) 3 s (-4)).1 r j) → (∀ r, U.1 5 r = V.1 5 r) → TE V U := by
      intro U V u2 v2 uo vo u5
      have um : mk U = mk t := congrArg Prod.fst u2
      have vm : mk V = mk t := congrArg Prod.fst v2
      have ur : rt U = rt t := congrArg Prod.snd u2
      have vr : rt V = rt t := congrArg Prod.snd v2
      refine ⟨um.trans vm.symm, ur.trans vr.symm, fun x hx => ⟨?_, ?_, ?_⟩, fun j hj => ?_, fun r hr => ⟨?_, u5 r⟩⟩
      · show U.1 0 x = V.1 0 x
        rw [uo 0 x (by decide), vo 0 x (by decide), tw_at, tw_at, if_neg (by omega), if_neg (by omega), l0 0 x (by decide) (by decide), c0 0 x (by decide)]
      · show U.1 1 x = V.1 1 x
        rw [uo 1 x (by decide), vo 1 x (by decide), tw_at, tw_at, if_neg (by omega), if_neg (by omega), l0 1 x (by decide) (by decide), c0 1 x (by decide)]
      · show U.1 3 x = V.1 3 x
        rw [uo 3 x (by decide), vo 3 x (by decide), tw_at, tw_at]
        by_cases z : x = s
        · rw [if_pos ⟨rfl, z⟩, z, ← c]
          exact eu
        · rw [if_neg (fun y => z y.2)]
          by_cases z2 : x = p
          · rw [if_pos ⟨rfl, z2⟩, z2]
            have h9 : (lsn t p).1 3 p = (tw (cB t s p) 3 p (-4)).1 3 p := (f3 p (by show p < mk t; exact h.2.1.1)).2.2
            rw [h9, tw_at, if_pos ⟨rfl, rfl⟩]
          · rw [if_neg (fun y => z2 y.2), l3 x z2, c0 3 x (by decide)]
      · rw [uo 2 j (by decide), vo 2 j (by decide), tw_at, tw_at, if_neg (by omega), if_neg (by omega)]
        exact l2 j (by omega)
      · show U.1 4 r = V.1 4 r
        rw [uo 4 r (by decide), vo 4 r (by decide), tw_at, tw_at, if_neg (by omega), if_neg (by omega), l0 4 r (by decide) (by decide), c0 4 r (by decide)]
    by_cases q : 0 ≤ ow t (s : Int)
    · rw [if_pos q, if_pos q]
      refine main _ _ e2 rfl (fun r j h5 => by rw [tw_at, if_neg (fun y => h5 y.1)]) (fun r j h5 => ?_) (fun r => ?_)
      · simp only [tw_at, if_neg (show ¬ (r = 5 ∧ j = (ow t (s : Int)).toNat) from fun y => h5 y.1)]
      · rw [tw_at, tw_at, tw_at, tw_at, if_neg (show ¬ ((5 : Nat) = 3 ∧ r = s) by omega), if_neg (show ¬ ((5 : Nat) = 3 ∧ r = p) by omega), l5, c0 5 r (by decide)]
    · rw [if_neg q, if_neg q]
      refine main _ _ e2 rfl (fun r j h5 => rfl) (fun r j h5 => rfl) (fun r => ?_)
      rw [tw_at, tw_at, if_neg (show ¬ ((5 : Nat) = 3 ∧ r = s) by omega), if_neg (show ¬ ((5 : Nat) = 3 ∧ r = p) by omega), l5, c0 5 r (by decide)]
  · have how : ow t (s : Int) = -4 := by
      rcases w2 with ⟨r, q1, q2, q3, _⟩ | ⟨q, _⟩
      · exact absurd q3 (w1 c r q2)
      · exact q
    rw [if_neg c, if_neg c, how, if_neg (by omega)]
    have um : mk (tw (tw (rpl (lsn t p) (up t s).toNat 3 s p) 3 p (up t s)) 3 s (-4)) = mk t := em
    refine ⟨em, er, fun x hx => ⟨?_, ?_, ?_⟩, fun j hj => ?_, fun r hr => ⟨?_, ?_⟩⟩
    · show (tw (tw (rpl (lsn t p) (up t s).toNat 3 s p) 3 p (up t s)) 3 s (-4)).1 0 x = (tw (rpl (tw (cB t s p) 3 p (up t s)) (up t s).toNat 3 s p) 3 s (-4)).1 0 x
      simp only [tw_at, rpl_at]
      simp [l0 0 x (by decide) (by decide), c0 0 x (by decide)]
    · show (tw (tw (rpl (lsn t p) (up t s).toNat 3 s p) 3 p (up t s)) 3 s (-4)).1 1 x = (tw (rpl (tw (cB t s p) 3 p (up t s)) (up t s).toNat 3 s p) 3 s (-4)).1 1 x
      simp only [tw_at, rpl_at]
      simp [l0 1 x (by decide) (by decide), c0 1 x (by decide)]
    · show (tw (tw (rpl (lsn t p) (up t s).toNat 3 s p) 3 p (up t s)) 3 s (-4)).1 3 x = (tw (rpl (tw (cB t s p) 3 p (up t s)) (up t s).toNat 3 s p) 3 s (-4)).1 3 x
      simp only [tw_at, rpl_at]
      by_cases z : x = s
      · simp [z]
      · by_cases z2 : x = p
        · simp [z2]
        · simp [z, z2, l3 x z2, c0 3 x (by decide)]
    · have hj : j < 3 * mk t := hj
      have h2 := l2 j hj
      simp only [tw_at, rpl_at]
      simp [h2]
    · show (tw (tw (rpl (lsn t p) (up t s).toNat 3 s p) 3 p (up t s)) 3 s (-4)).1 4 r = (tw (rpl (tw (cB t s p) 3 p (up t s)) (up t s).toNat 3 s p) 3 s (-4)).1 4 r
      simp only [tw_at, rpl_at]
      simp [l0 4 r (by decide) (by decide), c0 4 r (by decide)]
    · show (tw (tw (rpl (lsn t p) (up t s).toNat 3 s p) 3 p (up t s)) 3 s (-4)).1 5 r = (tw (rpl (tw (cB t s p) 3 p (up t s)) (up t s).toNat 3 s p) 3 s (-4)).1 5 r
      simp only [tw_at, rpl_at]
      simp [l5, c0 5 r (by decide)]
/-- THE CLASS takes a place, and what is left goes -/
theorem c_repl {Q : Hp → Prop} {h0 : Hp} (w : WF t) (h : TP t s p) (R : RC t h0) (k : ∀ h', fr 2 13 h0 h' → RC (RP t s p (GS t s p)) h' → Q h') : Cl shC mX1_takePlace [pR 1, pI (s : Int), pI (p : Int)] h0 (fun _ h1 => Cl shC mX1_endTree [pR 1, pI (s : Int)] h1 (fun _ h2 => Q h2)) := by
  have hps := (h.ps w).2
  have gs := (h.pc w).2.2.1
  have ups : ∀ x, x < mk t → kd t x ≠ -1 → up t x = -4 ∨ (0 ≤ up t x ∧ up t x < (mk t : Int)) := fun x h1 h2 => by
    rcases up_al w (al_n.mpr ⟨h1, h2⟩) with q | ⟨q, _⟩
    · rw [upI_at h1] at q
      exact Or.inl q
    · rw [upI_at h1] at q
      exact Or.inr ⟨q.1, q.2.1⟩
  refine c_takePlace R (al_n.mpr h.1) (al_n.mpr h.2.1) (fun e => hps e.symm) (ups p h.2.1.1 h.2.1.2) (ups s h.1.1 h.1.2) (fun h1 x1 R1 => ?_)
  have R1 := R1.te (te_tkT w h)
  refine c_endTree R1 (fun _ => TT_tr w h 40 s gs (rk_pos w h.1.1 h.1.2).2) (fun h2 x2 R2 => ?_)
  exact k h2 ((x1.wd (by decide) (by decide)).tr x2) (R2.te (te_RP w h (TT_set w h)))
end RP2
