/-! AHEAD: the reference takes a place -/
section MRP
variable {t : TV} {s p : Nat}
theorem mz.rs {m : Nat} {h h1 h2 : Hp} (x : mz m h h1) (y : gf 1 11 h1 h2) (e5 : h2.1 5 = h1.1 5) (e8 : h2.1 8 = h1.1 8) : mz m h h2 :=
  x.tr (m' := m) ⟨fun a ha => by
    by_cases e : a = 8
    · rw [e]
      exact e8
    · exact y.1 a (by omega), fun s => Or.inl (by rw [e5]), y.2.1, y.2.2⟩ (Nat.le_refl _)
theorem wk_TT (w : WF t) (h : TP t s p) : wk (TT t s p) := by
  have hu := h.uq w
  intro x hx
  have hx : x < mk t := hx
  have a1 := w.2.2.2.2.1 x hx
  have hp1 := h.2.1.1
  have ea : ar (TT t s p) x = ar t x := rfl
  refine ⟨⟨a1.1, a1.2.1, fun q => ?_⟩, fun k hk => ?_⟩
  · have q : kd t x = 6 := q
    have h1 := (w.2.2.2.2.2.1 x hx (by omega)).2.1 q
    have h2 := w.2.2.1 (nm t x).toNat (by omega)
    exact ⟨h1.1, h1.2, h2.1, h2.2.1⟩
  · rw [TT_p hk, ea]
    have base : (pt t x k = -4 ∨ (0 ≤ pt t x k ∧ pt t x k < (mk t : Int))) ∧ (ar t x ≤ k → pt t x k = -4) := by
      by_cases hkx : kd t x = -1
      · have := (a1.2.2 hkx).2.2 k hk
        exact ⟨Or.inl this, fun _ => this⟩
      · have f := (w.2.2.2.2.2.1 x hx hkx).2.2.2 k hk
        refine ⟨?_, f.2⟩
        by_cases q : k < ar t x
        · have h0 := f.1 q
          rcases w.lk hx hkx k hk with z | z
          · omega
          · exact Or.inr ⟨h0, z.1⟩
        · exact Or.inl (f.2 (by omega))
    obtain ⟨b1, b2⟩ := base
    split
    · exact ⟨Or.inl rfl, fun _ => rfl⟩
    · split
      · rename_i z
        refine ⟨Or.inr ⟨by omega, by show (p : Int) < (mk t : Int); omega⟩, fun q => ?_⟩
        have := b2 q
        omega
      · exact ⟨b1, b2⟩
theorem m_put2 {Q : Hp → Prop} {g0 g : Hp} {m : Nat} (w : WF t) (h : TP t s p) (x0 : mz m g0 g) (M : RM (cB t s p) g) (k : ∀ g', mz m g0 g' → RM (RP t s p (GS t s p)) g' → Q g') : Cl shM mX9_puts [pR 0, pI (s : Int), pI (p : Int)] g (fun _ h1 => Cl shM mX9_goesRest [pR 0, pI (s : Int)] h1 (fun _ h2 => Q h2)) := by
  have hps := (h.ps w).2
  have gs := (h.pc w).2.2.1
  have eu : up (cB t s p) s = up t s := by
    show (cB t s p).1 3 s = _
    rw [cB_at, if_neg (by omega)]
  refine m_puts M (by show s < mk t; exact h.1.1) (by show p < mk t; exact h.2.1.1) (fun e => hps e.symm) ?_ (fun h1 x1 e5 e6 M1 => ?_)
  · rw [eu]
    rcases up_al w (al_n.mpr h.1) with q | ⟨q, _⟩
    · rw [upI_at h.1.1] at q
      exact Or.inl q
    · rw [upI_at h.1.1] at q
      exact Or.inr ⟨q.1, q.2.1⟩
  · have M1 := M1.te (te_puT w h)
    refine m_goesRest M1 (wk_TT w h) (by show s < mk t; exact h.1.1) (fun D d1 d2 d3 h2 x2 f5 f6 f7 f8 M2 => ?_)
    refine k h2 ((x0.gn (x1.wd (by decide) (by decide)) e5).rs x2 f5 f8) (M2.te (te_RP w h (fun x => ⟨fun hx => ?_, fun hx => ?_⟩)))
    · obtain ⟨d, hd⟩ := hx
      exact d3 (fun x => GS t s p x = true) gs (fun x hx y hy => (GS_ch w h hx hy).1) (x, d) hd
    · exact GS_least w h (C := fun x => ∃ d, (x, d) ∈ D) d1 (fun x ⟨d, hd⟩ y hy => d2 (x, d) hd y hy) x hx
/-- by a loose step -/
theorem m_replN {Q : Hp → Prop} {g0 g : Hp} {m : Nat} (w : WF t) (h : TP t s p) (hn : p ∉ ch t s) (x0 : mz m g0 g) (M : RM t g) (k : ∀ g', mz m g0 g' → RM (RP t s p (GS t s p)) g' → Q g') : Cl shM mX9_puts [pR 0, pI (s : Int), pI (p : Int)] g (fun _ h1 => Cl shM mX9_goesRest [pR 0, pI (s : Int)] h1 (fun _ h2 => Q h2)) := by
  refine m_put2 w h x0 (M.te ?_) k
  have e : ∀ r j, j < 3 * mk t → (cB t s p).1 r j = t.1 r j := fun r j hj => by
    rw [cB_at, if_neg]
    rintro ⟨_, z2, z3⟩
    apply hn
    refine mem_ch.mpr ⟨j % 3, by omega, ?_⟩
    have e3 : t.1 2 j = pt t s (j % 3) := by
      show _ = t.1 2 (3 * s + j % 3)
      rw [show 3 * s + j % 3 = j by omega]
    rw [← e3, z3]
    exact ⟨by omega, by omega⟩
  have e0 : ∀ r j, r ≠ 2 → (cB t s p).1 r j = t.1 r j := fun r j h2 => by rw [cB_at, if_neg (fun y => h2 y.1)]
  exact ⟨rfl, rfl, fun x hx => ⟨e0 0 x (by decide), e0 1 x (by decide), e0 3 x (by decide)⟩, fun j hj => e 2 j hj, fun r hr => ⟨e0 4 r (by decide), e0 5 r (by decide)⟩⟩
/-- by a part -/
theorem m_becomes {Q : Int → Hp → Prop} {g0 g : Hp} {m : Nat} (w : WF t) (hs : s < mk t ∧ kd t s ≠ -1) (hp : p ∈ ch t s) (x0 : mz m g0 g) (M : RM t g) (k : ∀ g', mz m g0 g' → RM (RP t s p (GS t s p)) g' → Q 0 g') : Cl shM mX9_becomes [pR 0, pI (s : Int), pI (p : Int)] g Q := by
  have hm := w.m
  have hpa := ch_al w hs.1 hs.2 hp
  have h : TP t s p := ⟨hs, hpa, Or.inl hp⟩
  have hup := tr_up (w.tr' hs.1 hs.2) hp
  refine sX9_becomes_0 ⟨p, rfl, by omega, ?_⟩
  rw [M.u hpa.1, hup]
  have key : ∀ (n i : Nat) (g1 : Hp), i + n = 3 → mz m g0 g1 → RM (rpl t s i p (-4)) g1 → Ok shM 0 0 mX9_becomes 10 [some (pR 0), some (pI (s : Int)), some (pI (p : Int)), some (pI (s : Int)), some (pI (i : Int))] [] g1 Q := by
    intro n
    induction n with
    | zero =>
      intro i g1 hi x M1
      have e : i = 3 := hi
      subst e
      exact sX9_becomes_10 ⟨fun _ => m_put2 w h x M1 k, fun c => absurd (Int.le_refl 3) c⟩
    | succ n ih =>
      intro i g1 hi x M1
      have hst := rpl_step t s i (by omega) p (-4)
      have hpt := rpl_pt t s i p (-4) (by omega)
      have e : g1.1 3 (3 * s + i) = t.1 2 (3 * s + i) := by
        have := M1.p (s := s) (k := i) (show s < mk t from hs.1) (by omega)
        rw [this]
        exact hpt
      refine sX9_becomes_10 ⟨fun c => absurd c (by omega), fun _ => ⟨by unfold inR; omega, by unfold inR; omega, 3 * s + i, by omega, by omega, ?_⟩⟩
      rw [e]
      refine ⟨fun c => ⟨by unfold inR; omega, ?_⟩, fun c => ⟨by unfold inR; omega, ?_⟩⟩
      · rw [if_neg c] at hst
        exact ih (i + 1) g1 (by omega) x (by rw [hst]; exact M1)
      · rw [if_pos c] at hst
        exact ih (i + 1) _ (by omega) (x.A (Or.inl rfl)) (by rw [hst]; exact M1.wr (ro := 2) (by decide) _ _)
  exact key 3 0 g rfl x0 (by rw [rpl_0]; exact M)
end MRP
/-! LEAVES that would end a BLOCK -/
section LVS
variable {t : TV}
def lvT (t : TV) : Nat → Nat → Bool
  | 0, _ => false
  | n + 1, s => if kd t s = 11 then false else decide (kd t s = 7) || (ch t s).any (lvT t n)
def lvB (t : TV) (b : Nat) : Bool := (ch t b).any (lvT t 39)
def scn (t : TV) : Nat → List (Nat × Nat) → Bool
  | _, [] => false
  | K, q :: r => if K < q.2 then scn t K r else if kd t q.1 = 7 then true else scn t (if kd t q.1 = 11 then q.2 else 40) r
theorem scn_skip {K : Nat} : ∀ {l r : List (Nat × Nat)}, (∀ q ∈ l, K < q.2) → scn t K (l ++ r) = scn t K r
  | [], _, _ => rfl
  | q :: l, r, h => by
    show (if K < q.2 then scn t K (l ++ r) else _) = _
    rw [if_pos (h q List.mem_cons_self)]
    exact scn_skip (fun x hx => h x (List.mem_cons_of_mem _ hx))
theorem scn_pre : ∀ (n s d K : Nat) (rest : List (Nat × Nat)) (R : Bool), tr t n s → d + n ≤ 41 → d ≤ K → (∀ K', d ≤ K' → scn t K' rest = R) → scn t K (pre t n d s ++ rest) = (lvT t n s || R) := by
  intro n
  induction n with
  | zero => exact fun s d K rest R h => h.elim
  | succ n ih =>
    intro s d K rest R h hdn hdK hR
    show (if K < d then _ else if kd t s = 7 then true else scn t (if kd t s = 11 then d else 40) ((ch t s).flatMap (pre t n (d + 1)) ++ rest)) = ((if kd t s = 11 then false else decide (kd t s = 7) || (ch t s).any (lvT t n)) || R)
    rw [if_neg (by omega)]
    by_cases h7 : kd t s = 7
    · rw [if_pos h7, if_neg (by omega), decide_eq_true h7]
      rfl
    · rw [if_neg h7, decide_eq_false h7, Bool.false_or]
      by_cases h11 : kd t s = 11
      · rw [if_pos h11, if_pos h11, scn_skip (fun q hq => ?_), hR d (Nat.le_refl _)]
        · rfl
        · obtain ⟨y, hy, hq⟩ := List.mem_flatMap.mp hq
          have := (pre_in (x := q.1) (dx := q.2) hq (h.2.2.2 y hy)).1
          omega
      · rw [if_neg h11, if_neg h11]
        have inner : ∀ (cs : List Nat) (K' : Nat), (∀ y ∈ cs, tr t n y) → d ≤ K' → (cs = [] ∨ d + 1 ≤ K') → scn t K' (cs.flatMap (pre t n (d + 1)) ++ rest) = (cs.any (lvT t n) || R) := by
          intro cs
          induction cs with
          | nil => exact fun K' _ hK _ => hR K' hK
          | cons y cs ih2 =>
            intro K' hy hK hK2
            have hK3 := hK2.resolve_left (fun e => by cases e)
            rw [List.flatMap_cons, List.append_assoc]
            have hyt := hy y List.mem_cons_self
            have hn : 1 ≤ n := by
              cases n with
              | zero => exact hyt.elim
              | succ n => omega
            rw [ih y (d + 1) K' _ (cs.any (lvT t n) || R) hyt (by omega) hK3 (fun K'' hK'' => ih2 K'' (fun z hz => hy z (List.mem_cons_of_mem _ hz)) (by omega) (Or.inr hK''))]
            rw [List.any_cons, Bool.or_assoc]
        have hd40 : d ≤ 40 := by omega
        refine inner (ch t s) 40 h.2.2.2 hd40 ?_
        cases n with
        | zero =>
          left
          cases hc : ch t s with
          | nil => rfl
          | cons y l => exact (h.2.2.2 y (by rw [hc]; exact List.mem_cons_self)).elim
        | succ n => right; omega
theorem scn_B (w : WF t) {b : Nat} (hb : b < mk t) (hk : kd t b ≠ -1) : scn t 40 ((ch t b).flatMap (pre t 39 2)) = lvB t b := by
  have htr := w.tr' hb hk
  have inner : ∀ (cs : List Nat), (∀ y ∈ cs, tr t 39 y) → ∀ K', (cs = [] ∨ 2 ≤ K') → scn t K' (cs.flatMap (pre t 39 2)) = cs.any (lvT t 39) := by
    intro cs
    induction cs with
    | nil => exact fun _ _ _ => rfl
    | cons y cs ih2 =>
      intro hy K' hK2
      have hK3 := hK2.resolve_left (fun e => by cases e)
      rw [List.flatMap_cons, List.any_cons]
      exact scn_pre 39 y 2 K' _ _ (hy y List.mem_cons_self) (by decide) hK3 (fun K'' hK'' => ih2 (fun z hz => hy z (List.mem_cons_of_mem _ hz)) K'' (Or.inr hK''))
  exact inner (ch t b) (fun y hy => tr_ch htr hy) 40 (Or.inr (by decide))
/-- the nearest BLOCK, from a step up -/
def nb (t : TV) : Nat → Int → Int
  | 0, z => z
  | m + 1, z => if kdI t z = 11 then z else nb t m (upI t z)
theorem nb_s (m x : Nat) (hx : x < mk t) : nb t (m + 1) (x : Int) = if kd t x = 11 then (x : Int) else nb t m (up t x) := by
  show (if kdI t (x : Int) = 11 then (x : Int) else nb t m (upI t (x : Int))) = _
  rw [kdI_at hx, upI_at hx]
theorem nb_stab (w : WF t) {b : Nat} (hb : b < mk t) (hk : kd t b = 11) : ∀ (r x d m m' : Nat), d ≤ r → (x, d) ∈ pre t 40 1 b → d ≤ m → d ≤ m' → nb t m (x : Int) = nb t m' (x : Int) := by
  have hkb : kd t b ≠ -1 := by rw [hk]; decide
  have htr := w.tr' hb hkb
  intro r
  induction r with
  | zero =>
    intro x d m m' h1 hx
    have := (pre_in hx htr).1
    omega
  | succ r ih =>
    intro x d m m' h1 hx h2 h3
    have hxa := tr_at (pre_in hx htr).2.2
    have := (pre_in hx htr).1
    obtain ⟨n, rfl⟩ : ∃ n, m = n + 1 := ⟨m - 1, by omega⟩
    obtain ⟨n', rfl⟩ : ∃ n', m' = n' + 1 := ⟨m' - 1, by omega⟩
    rw [nb_s n x hxa.1, nb_s n' x hxa.1]
    by_cases h11 : kd t x = 11
    · rw [if_pos h11, if_pos h11]
    · rw [if_neg h11, if_neg h11]
      rcases pclos hx htr with ⟨e, _⟩ | ⟨a, e1, e2, e3⟩
      · rw [e] at h11
        exact absurd hk h11
      · rw [e1]
        exact ih a (d - 1) n n' (by omega) e3 (by omega) (by omega)
abbrev nbS (t : TV) (x : Nat) : Int := nb t 40 (x : Int)
theorem nbS_e (w : WF t) {b : Nat} (hb : b < mk t) (hk : kd t b = 11) {x : Nat} (hx : inT t b x) : nbS t x = if kd t x = 11 then (x : Int) else nbS t (up t x).toNat := by
  have hkb : kd t b ≠ -1 := by rw [hk]; decide
  have htr := w.tr' hb hkb
  obtain ⟨d, hd⟩ := hx
  have hxa := tr_at (pre_in hd htr).2.2
  have h40 := (pre_in hd htr).2.1
  show nb t (39 + 1) (x : Int) = _
  rw [nb_s 39 x hxa.1]
  by_cases h11 : kd t x = 11
  · rw [if_pos h11, if_pos h11]
  · rw [if_neg h11, if_neg h11]
    rcases pclos hd htr with ⟨e, _⟩ | ⟨a, e1, e2, e3⟩
    · rw [e] at h11
      exact absurd hk h11
    · rw [e1, Int.toNat_natCast]
      exact nb_stab w hb hk 40 a (d - 1) 39 40 (by omega) e3 (by omega) (by omega)
theorem inT_rk (w : WF t) {s : Nat} (hs : s < mk t) (hk : kd t s ≠ -1) : ∀ (d x : Nat), (x, d) ∈ pre t 40 1 s → x = s ∨ rk t x < rk t s := by
  have htr := w.tr' hs hk
  intro d
  induction d with
  | zero =>
    intro x hx
    have := (pre_in hx htr).1
    omega
  | succ d ih =>
    intro x hx
    rcases pclos hx htr with ⟨e, _⟩ | ⟨a, e1, e2, e3⟩
    · exact Or.inl e
    · right
      have hxa := tr_at (pre_in hx htr).2.2
      have haa := tr_at (pre_in e3 htr).2.2
      have hxc : x ∈ ch t a := by
        rcases up_al w (al_n.mpr hxa) with q | ⟨_, q2⟩
        · rw [upI_at hxa.1] at q
          omega
        · rw [upI_at hxa.1, e1] at q2
          simpa using q2
      have h1 := rk_ch w haa.1 haa.2 hxc
      rcases ih a (by simpa using e3) with e | e
      · rw [e] at h1
        exact h1
      · omega
theorem nb_in (w : WF t) {b s : Nat} (hb : b < mk t) (hk : kd t b = 11) (hs : inT t b s) (hks : kd t s = 11) : ∀ (d x : Nat), (x, d) ∈ pre t 40 1 s → ∃ y : Nat, nbS t x = (y : Int) ∧ inT t s y := by
  have hkb : kd t b ≠ -1 := by rw [hk]; decide
  have hsa := inT_al w hb hkb hs
  have htr := w.tr' hsa.1 hsa.2
  have sub : ∀ (d x : Nat), (x, d) ∈ pre t 40 1 s → inT t b x := by
    intro d
    induction d with
    | zero =>
      intro x hx
      have := (pre_in hx htr).1
      omega
    | succ d ih =>
      intro x hx
      rcases pclos hx htr with ⟨e, _⟩ | ⟨a, e1, _, e3⟩
      · rw [e]
        exact hs
      · have hxa := tr_at (pre_in hx htr).2.2
        have hxc : x ∈ ch t a := by
          rcases up_al w (al_n.mpr hxa) with q | ⟨_, q2⟩
          · rw [upI_at hxa.1] at q
            omega
          · rw [upI_at hxa.1, e1] at q2
            simpa using q2
        exact inT_ch w hb hkb (ih a (by simpa using e3)) hxc
  intro d
  induction d with
  | zero =>
    intro x hx
    have := (pre_in hx htr).1
    omega
  | succ d ih =>
    intro x hx
    rw [nbS_e w hb hk (sub _ x hx)]
    by_cases h11 : kd t x = 11
    · rw [if_pos h11]
      exact ⟨x, rfl, _, hx⟩
    · rw [if_neg h11]
      rcases pclos hx htr with ⟨e, _⟩ | ⟨a, e1, _, e3⟩
      · rw [e] at h11
        exact absurd hks h11
      · rw [e1, Int.toNat_natCast]
        exact ih a (by simpa using e3)
/-- both ways of asking for a LEAVE that ends the BLOCK -/
theorem lv_iff (w : WF t) {b : Nat} (hb : b < mk t) (hk : kd t b = 11) : ∀ (n s d : Nat), inT t b s → s ≠ b → nbS t (up t s).toNat = (b : Int) → tr t n s → ((∃ q ∈ pre t n d s, kd t q.1 = 7 ∧ nbS t q.1 = (b : Int)) ↔ lvT t n s = true) := by
  have hkb : kd t b ≠ -1 := by rw [hk]; decide
  intro n
  induction n with
  | zero => exact fun s d _ _ _ h => h.elim
  | succ n ih =>
    intro s d hs hsb hnb h
    have hsa := inT_al w hb hkb hs
    show _ ↔ (if kd t s = 11 then false else decide (kd t s = 7) || (ch t s).any (lvT t n)) = true
    by_cases h11 : kd t s = 11
    · rw [if_pos h11]
      constructor
      · rintro ⟨q, hq, _, hq2⟩
        exfalso
        have hq40 : (q.1, q.2) ∈ pre t (n + 1) d s := hq
        have hst := w.tr' hsa.1 hsa.2
        have e1 : pre t 40 d s = pre t (n + 1) d s := pre_same hst h
        rw [← e1] at hq40
        have hq1 : ∃ d1, (q.1, d1) ∈ pre t 40 1 s := by
          cases d with
          | zero =>
            refine ⟨q.2 + 1, ?_⟩
            rw [show (1 : Nat) = 0 + 1 from rfl, pre_sh 40 0 1 s]
            exact List.mem_map.mpr ⟨_, hq40, rfl⟩
          | succ d =>
            rw [show d + 1 = 1 + d by omega, pre_sh 40 1 d s] at hq40
            obtain ⟨z, hz, ez⟩ := List.mem_map.mp hq40
            refine ⟨z.2, ?_⟩
            have : z.1 = q.1 := (Prod.mk.inj ez).1
            rw [← this]
            exact hz
        obtain ⟨d1, hd1⟩ := hq1
        obtain ⟨y, hy1, ⟨dy, hy2⟩⟩ := nb_in w hb hk hs h11 d1 q.1 hd1
        have hyb : y = b := by omega
        rw [hyb] at hy2
        obtain ⟨ds, hds⟩ := hs
        rcases inT_rk w hsa.1 hsa.2 dy b hy2 with e | e
        · exact hsb e.symm
        · rcases inT_rk w hb hkb ds s hds with e2 | e2
          · exact hsb e2
          · omega
      · intro z
        cases z
    · rw [if_neg h11]
      have hns : nbS t s = (b : Int) := by
        rw [nbS_e w hb hk hs, if_neg h11]
        exact hnb
      rw [Bool.or_eq_true, decide_eq_true_eq, List.any_eq_true]
      constructor
      · rintro ⟨q, hq, hq7, hq2⟩
        rcases mem_pre.mp hq with e | ⟨c, hc, hq⟩
        · left
          rw [e] at hq7
          exact hq7
        · right
          have hcu := tr_up h hc
          refine ⟨c, hc, (ih c (d + 1) (inT_ch w hb hkb hs hc) (fun e => inT_no w hb hkb hs (by rw [← e]; exact hc)) (by rw [hcu, Int.toNat_natCast]; exact hns) (h.2.2.2 c hc)).mp ⟨q, hq, hq7, hq2⟩⟩
      · rintro (e | ⟨c, hc, e⟩)
        · exact ⟨(s, d), mem_pre.mpr (Or.inl rfl), e, hns⟩
        · have hcu := tr_up h hc
          obtain ⟨q, hq, hq7, hq2⟩ := (ih c (d + 1) (inT_ch w hb hkb hs hc) (fun e => inT_no w hb hkb hs (by rw [← e]; exact hc)) (by rw [hcu, Int.toNat_natCast]; exact hns) (h.2.2.2 c hc)).mpr e
          exact ⟨q, mem_pre.mpr (Or.inr ⟨c, hc, hq⟩), hq7, hq2⟩
theorem lvB_iff (w : WF t) {b : Nat} (hb : b < mk t) (hk : kd t b = 11) : (∃ q ∈ pre t 40 1 b, kd t q.1 = 7 ∧ nbS t q.1 = (b : Int)) ↔ lvB t b = true := by
  have hkb : kd t b ≠ -1 := by rw [hk]; decide
  have htr := w.tr' hb hkb
  have hnb : nbS t b = (b : Int) := by rw [nbS_e w hb hk (inT_s w), if_pos hk]
  show _ ↔ (ch t b).any (lvT t 39) = true
  rw [List.any_eq_true]
  constructor
  · rintro ⟨q, hq, hq7, hq2⟩
    rcases mem_pre.mp hq with e | ⟨c, hc, hq⟩
    · rw [e, hk] at hq7
      exact absurd hq7 (by decide)
    · have hcu := tr_up htr hc
      exact ⟨c, hc, (lv_iff w hb hk 39 c 2 (inT_ch w hb hkb (inT_s w) hc) (fun e => inT_no w hb hkb (inT_s w) (by have hc2 := hc; rw [e] at hc2; exact hc2)) (by rw [hcu, Int.toNat_natCast]; exact hnb) (tr_ch htr hc)).mp ⟨q, hq, hq7, hq2⟩⟩
  · rintro ⟨c, hc, e⟩
    have hcu := tr_up htr hc
    obtain ⟨q, hq, hq7, hq2⟩ := (lv_iff w hb hk 39 c 2 (inT_ch w hb hkb (inT_s w) hc) (fun e => inT_no w hb hkb (inT_s w) (by have hc2 := hc; rw [e] at hc2; exact hc2)) (by rw [hcu, Int.toNat_natCast]; exact hnb) (tr_ch htr hc)).mpr e
    exact ⟨q, mem_pre.mpr (Or.inr ⟨c, hc, hq⟩), hq7, hq2⟩
end LVS
