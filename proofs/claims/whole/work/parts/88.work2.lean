/-! AHEAD: a step is worked ahead, the class's step and the reference's -/
section W2
variable {t : TV} {s : Nat} {r : Int}
section WC
variable {h : Hp} {Q : Hp → Prop}
/-- what working ahead may change in the class -/
def aw (h h' : Hp) : Prop := (∀ a, a < 2 ∨ (18 < a ∧ a < 30) ∨ 37 < a → h'.1 a = h.1 a ∧ h'.2.1 a = h.2.1 a) ∧ h'.2.2 = h.2.2
theorem aw.rf : aw h h := ⟨fun _ _ => ⟨rfl, rfl⟩, rfl⟩
theorem aw.tr {h h1 h2 : Hp} (x : aw h h1) (y : aw h1 h2) : aw h h2 := ⟨fun a ha => ⟨(y.1 a ha).1.trans (x.1 a ha).1, (y.1 a ha).2.trans (x.1 a ha).2⟩, y.2.trans x.2⟩
theorem aw.fr {lo hi : Nat} {h h1 h2 : Hp} (x : aw h h1) (y : fr lo hi h1 h2) (hl : (2 ≤ lo ∧ hi ≤ 18) ∨ (30 ≤ lo ∧ hi ≤ 37)) : aw h h2 := x.tr ⟨fun a ha => y.1 a (by omega), y.2⟩
theorem aw.I {h h1 : Hp} (x : aw h h1) (k : Nat) (z : Int) : aw h (hI h1 30 k z) := x.fr (fr.rf.I (lo := 30) (hi := 30) ⟨by decide, by decide⟩) (Or.inr ⟨by decide, by decide⟩)
theorem c_chg {p : Nat} (w : WF t) (R : RC t h) (tp : TP t s p) {k : Nat} (hk3 : k < 3) (hp : pt t s k = (p : Int)) (e6 : h.2.1 30 6 = (k : Int)) (q : ∀ h', fr 2 13 h h' → RC (RP t s p (GS t s p)) h' → Q h') : Cl shC mX7_change [pR 30, pI (s : Int)] h (fun _ h1 => Q h1) := by
  refine sX7_change_0 ⟨fun _ => ?_, fun c => absurd c (by omega)⟩
  rw [e6]
  refine c_partOf R _ _ ?_
  rw [ptI_at tp.1.1 hk3, hp]
  exact c_repl w tp R q
theorem c_work (w : WF t) (R : RC t h) (hs : s < mk t) (hks : kd t s ≠ -1) (fd : FD t r s h) (h5 : h.2.1 30 5 = 0) (h0 : hld t r s ≠ 0)
    (p1 : ¬ ful t r s → ∀ h', fr 2 13 h h' → RC (wrk t r s) h' → Q h') (p0 : ful t r s → ∀ h', aw h h' → h'.2.1 30 5 = 1 → Q h') :
    ((h.2.1 30 8 = (-4)) → Cl shC mX7_change [pR 30, pI (s : Int)] h (fun _ h1 => Q h1)) ∧ ((¬ h.2.1 30 8 = (-4)) → Cl shC mX7_namesBecomeNumbers [pR 30] h (fun _ h3 => Cl shC mX7_change [pR 30, pI (s : Int)] h3 (fun _ h4 => Q h4))) := by
  obtain ⟨k1, k2, k3, k4, k5, k6⟩ := hld_kd t r s
  obtain ⟨f13, f1, f3, f2, f4, f5, f6⟩ := fd
  have part : ∀ {p : Nat}, p ∈ ch t s → TP t s p := fun {p} hp => ⟨⟨hs, hks⟩, ch_al w hs hks hp, Or.inl hp⟩
  have num : ∀ v, hld t r s = 1 ∨ hld t r s = 3 → h.2.1 30 7 = v → wrk t r s = LR t s v → Cl shC mX7_change [pR 30, pI (s : Int)] h (fun _ h1 => Q h1) := fun v e13 e7 ew => by
    refine sX7_change_0 ⟨fun c => absurd (f13 e13).1 c, fun _ => c_becomeNumber w R hs hks (fun hm h' x R' => ?_) (fun hm => ?_)⟩
    · refine p1 (fun z => ?_) h' x (by rw [ew, ← e7]; exact R')
      rcases z with z | z
      · exact z.2 hm
      · have := z.1
        omega
    · exact p0 (Or.inl ⟨e13, hm⟩) _ (aw.rf.I _ _) (by rw [hI_at, if_pos ⟨rfl, rfl⟩])
  have nf : hld t r s ≠ 1 → hld t r s ≠ 3 → hld t r s ≠ 6 → ¬ ful t r s := fun a b c z => by
    rcases z with z | z
    · exact z.1.elim a b
    · exact c z.1
  rcases hld_r t r s with e | e | e | e | e | e | e
  · exact absurd e h0
  · refine ⟨fun _ => num _ (Or.inl e) (f1 e) ?_, fun c => absurd (f13 (Or.inl e)).2 c⟩
    unfold wrk
    rw [if_pos e]
  · have nfe := nf (by omega) (by omega) (by omega)
    obtain ⟨p, e1, e2, e3⟩ := pick_p w hs (k2 e)
    refine ⟨fun _ => ?_, fun c => absurd (f2 e).2 c⟩
    have ew : wrk t r s = RP t s p (GS t s p) := by
      unfold wrk
      rw [if_neg (by omega), if_neg (by omega), if_pos e, e1]
    rw [ew] at p1
    have g6 := (f2 e).1
    by_cases c0 : nm t (xN t s) = 0
    · rw [if_pos c0] at e2 g6
      exact c_chg w R (part e3) (k := 2) (by decide) e2 g6 (p1 nfe)
    · rw [if_neg c0] at e2 g6
      exact c_chg w R (part e3) (k := 1) (by decide) e2 g6 (p1 nfe)
  · refine ⟨fun _ => num _ (Or.inr e) (f3 e) ?_, fun c => absurd (f13 (Or.inr e)).2 c⟩
    unfold wrk
    rw [if_neg (by omega), if_pos e]
  · have nfe := nf (by omega) (by omega) (by omega)
    obtain ⟨y1, y2, y3, y4⟩ := (both_p w hs (k4 e)).2.1
    refine ⟨fun _ => ?_, fun c => absurd (f4 e).2 c⟩
    have ew : wrk t r s = RP t s (yN t s) (GS t s (yN t s)) := by
      unfold wrk
      rw [if_neg (by omega), if_neg (by omega), if_neg (by omega), if_pos e]
    rw [ew] at p1
    exact c_chg w R (part y2) (k := 1) (by decide) y1 (f4 e).1 (p1 nfe)
  · have nfe := nf (by omega) (by omega) (by omega)
    obtain ⟨x1, x2, x3, x4⟩ := prt w hs hks (j := 0) (by rw [ar_1 (Or.inr (Or.inr (Or.inr (k5 e))))]; decide) (by decide)
    refine ⟨fun _ => ?_, fun c => absurd (f5 e).2 c⟩
    have ew : wrk t r s = RP t s (xN t s) (GS t s (xN t s)) := by
      unfold wrk
      rw [if_neg (by omega), if_neg (by omega), if_neg (by omega), if_neg (by omega), if_pos e]
    rw [ew] at p1
    exact c_chg w R (part x2) (k := 0) (by decide) x1 (f5 e).1 (p1 nfe)
  · obtain ⟨g6, g8, g7, g4, gD⟩ := f6 e
    obtain ⟨⟨x1, x2, x3, x4⟩, _, _, _⟩ := both_p w hs (k6 e).1
    have x3 : xN t s < mk t := x3
    have hx4 : kd t (xN t s) = 4 := (k6 e).2.1
    have hn := (w.nmr x3 (by rw [hx4]; decide)).1 (Or.inr hx4)
    refine ⟨fun c => absurd c (by rw [g8]; omega), fun _ => ?_⟩
    have fin : ∀ U h', h'.2.1 30 6 = 1 → RC U h' → IVN t U s [] → (∀ h'', fr 2 13 h' h'' → RC (RP U s (yN U s) (GS U s (yN U s))) h'' → Q h'') → Cl shC mX7_change [pR 30, pI (s : Int)] h' (fun _ h4 => Q h4) := fun U h' z6 RU I q => by
      obtain ⟨a1, a2, a3, _⟩ := I
      obtain ⟨_, ⟨y1, y2, y3, y4⟩, _, _⟩ := both_p a1 a2 a3
      exact c_chg a1 RU ⟨⟨a2, by rw [a3]; decide⟩, ⟨y3, y4⟩, Or.inl y2⟩ (k := 1) (by decide) y1 z6 q
    refine c_names w R hs (k6 e).1 h5 g8 g7 g4 gD (fun hm h' x R' I => ?_) (fun hm h' U x R' I => ?_)
    · have ew : wrk t r s = RP (nmc (nls t (nm t (xN t s)) (plist t ((yN t s : Nat) : Int))) t (nm t (xN t (xN t s)))) s (yN (nmc (nls t (nm t (xN t s)) (plist t ((yN t s : Nat) : Int))) t (nm t (xN t (xN t s)))) s) (GS (nmc (nls t (nm t (xN t s)) (plist t ((yN t s : Nat) : Int))) t (nm t (xN t (xN t s)))) s (yN (nmc (nls t (nm t (xN t s)) (plist t ((yN t s : Nat) : Int))) t (nm t (xN t (xN t s)))) s)) := by
        unfold wrk
        rw [if_neg (by omega), if_neg (by omega), if_neg (by omega), if_neg (by omega), if_neg (by omega)]
      rw [ew] at p1
      refine fin _ h' (by rw [x.i (by decide)]; exact g6) R' I (fun h'' x2 R2 => p1 (fun z => ?_) h'' (x.tr x2) R2)
      rcases z with z | z
      · have := z.1
        omega
      · exact z.2 hm
    · have xI : aw h (hI h' 30 5 1) := (aw.rf.fr x (Or.inl ⟨by decide, by decide⟩)).I _ _
      have RI : RC U (hI h' 30 5 1) := R'.kp (fr.rf.I (lo := 30) (hi := 30) ⟨by decide, by decide⟩) (Or.inl (by decide))
      refine fin U _ (by rw [hI_at, if_neg (by omega), x.i (by decide)]; exact g6) RI I (fun h'' x2 R2 => p0 (Or.inr ⟨e, hm⟩) h'' (xI.fr x2 (Or.inl ⟨by decide, by decide⟩)) ?_)
      rw [x2.i (by decide), hI_at, if_pos ⟨rfl, rfl⟩]
end WC
section WM
variable {g : Hp} {Q : Int → Hp → Prop}
/-- a part gone: its rows are as they were within what took the place -/
theorem cB_te {p : Nat} (hn : p ∉ ch t s) : TE t (cB t s p) := by
  have e : ∀ r j, j < 3 * mk t → (cB t s p).1 r j = t.1 r j := fun r j hj => by
    rw [cB_at, if_neg]
    rintro ⟨_, z2, z3⟩
    apply hn
    refine mem_ch.mpr ⟨j % 3, by omega, ?_⟩
    have e3 : t.1 2 j = pt t s (j % 3) := by
      show _ = t.1 2 (3 * s + j % 3)
      rw [show 3 * s + j % 3 = j by omega]
    rw [← e3, z3]
    exact ⟨by omega, by omega⟩
  have e0 : ∀ r j, r ≠ 2 → (cB t s p).1 r j = t.1 r j := fun r j h2 => by rw [cB_at, if_neg (fun y => h2 y.1)]
  exact ⟨rfl, rfl, fun x hx => ⟨e0 0 x (by decide), e0 1 x (by decide), e0 3 x (by decide)⟩, fun j hj => e 2 j hj, fun r hr => ⟨e0 4 r (by decide), e0 5 r (by decide)⟩⟩
/-- a leaf becomes a number, the reference's way with names -/
theorem m_leafN {F : Hp → Prop} {g0 : Hp} {m : Nat} {n : Nat} {v : Int} (w : WF t) (hm : mk t < 600) (hl : leaf t n) (hmm : m ≤ mk t) (x0 : mz m g0 g) (M : RM t g) (k : ∀ g', mz m g0 g' → g'.1 13 = g.1 13 → RM (LR t n v) g' → F g') : Cl shM mX9_make [pR 0, pI 0, pI v] g (fun r1 h1 => Cl shM mX9_puts [pR 0, pI (n : Int), pI r1] h1 (fun _ h2 => Cl shM mX9_goneAlone [pR 0, pI (n : Int)] h2 (fun _ h3 => F h3))) := by
  have wN := wf_mkN w hm v
  have tp := tp_new (v := v) w hl.1 hl.2.1
  have hn := hl.1
  refine m_make M hm 0 v (fun h1 y1 z1 M1 => ?_)
  have M1 := M1.te (cB_te (tp_nch w hl.1 hl.2.1))
  have x1 := x0.mk y1 z1 hmm
  have eu : up (cB (mkS t 0 v) n (mk t)) n = up t n := by
    show (cB (mkS t 0 v) n (mk t)).1 3 n = _
    rw [cB_at, if_neg (by omega)]
    have := mkN_u (t := t) (v := v) n
    rw [if_neg (by omega)] at this
    exact this
  refine m_puts M1 (by show n < mk t + 1; omega) (by show mk t < mk t + 1; omega) (by omega) ?_ (fun h2 y2 e5 e6 M2 => ?_)
  · rw [eu]
    rcases up_al w (al_n.mpr ⟨hl.1, hl.2.1⟩) with q | ⟨q, _⟩
    · rw [upI_at hl.1] at q
      exact Or.inl q
    · rw [upI_at hl.1] at q
      have q1 := q.1
      have q2 := q.2.1
      exact Or.inr ⟨q1, by show up t n < ((mk t + 1 : Nat) : Int); omega⟩
  · have M2 := M2.te (te_puT wN tp)
    have x2 := x1.gn (y2.wd (by decide) (by decide)) e5
    refine m_goneAlone M2 (by omega) (fun h3 y3 M3 => k h3 (x2.gn (y3.wd (by decide) (by decide)) (y3.1 5 (by decide))) ((y3.1 13 (by decide)).trans ((y2.1 13 (by decide)).trans (y1.1 13 (by decide)))) ?_)
    have e : TE (eT (TT (mkS t 0 v) n (mk t)) [(n, 0)]) (RP (mkS t 0 v) n (mk t) (GS (mkS t 0 v) n (mk t))) := te_RP wN tp (fun x => by
      rw [GS_leaf w hm hl.1 hl.2.1 hl.2.2]
      constructor
      · rintro ⟨d, hd⟩
        rw [List.mem_singleton] at hd
        exact congrArg Prod.fst hd
      · intro e
        exact ⟨0, by rw [e]; exact List.mem_singleton.mpr rfl⟩)
    exact M3.te e
/-- within the part that took the place, the tree is as it was -/
theorem RP_pre (w : WF t) (hs : s < mk t) (hk : kd t s = 5) : ∀ (n d x : Nat), inT t (yN t s) x → pre (RP t s (yN t s) (GS t s (yN t s))) n d x = pre t n d x := by
  have hks : kd t s ≠ -1 := by rw [hk]; decide
  obtain ⟨_, ⟨y1, y2, y3, y4⟩, _, _⟩ := both_p w hs hk
  have tp : TP t s (yN t s) := ⟨⟨hs, hks⟩, ⟨y3, y4⟩, Or.inl y2⟩
  have hns := (tp.ps w).1
  intro n
  induction n with
  | zero => exact fun d x _ => rfl
  | succ n ih =>
    intro d x hx
    have hG : ¬ GS t s (yN t s) x = true := fun q => (GS_at.mp q).2 hx
    have ec : ch (RP t s (yN t s) (GS t s (yN t s))) x = ch t x := by
      have hf : ∀ k, k < 3 → pf (RP t s (yN t s) (GS t s (yN t s))) x k = pf t x k := fun k hk3 => by
        unfold pf
        have hne : ¬ pt t x k = (s : Int) := fun e => by
          have hc : s ∈ ch t x := mem_ch.mpr ⟨k, hk3, by omega, by omega⟩
          exact hns (inT_ch w y3 y4 hx hc)
        rw [RP_p _ hk3, if_neg hG, if_neg hne]
      rw [ch_eq, ch_eq, hf 0 (by decide), hf 1 (by decide), hf 2 (by decide)]
    show (x, d) :: (ch (RP t s (yN t s) (GS t s (yN t s))) x).flatMap (pre (RP t s (yN t s) (GS t s (yN t s))) n (d + 1)) = (x, d) :: (ch t x).flatMap (pre t n (d + 1))
    rw [ec]
    congr 1
    have inner : ∀ L : List Nat, (∀ y ∈ L, inT t (yN t s) y) → L.flatMap (pre (RP t s (yN t s) (GS t s (yN t s))) n (d + 1)) = L.flatMap (pre t n (d + 1)) := by
      intro L
      induction L with
      | nil => exact fun _ => rfl
      | cons y L ih2 =>
        intro hL
        rw [List.flatMap_cons, List.flatMap_cons, ih _ y (hL y List.mem_cons_self), ih2 (fun z hz => hL z (List.mem_cons_of_mem _ hz))]
    exact inner _ (fun y hy => inT_ch w y3 y4 hx hy)
theorem m_names {g0 : Hp} {k0 v : Int} (w : WF t) (hs : s < mk t) (hk : kd t s = 5) (hm : mk t + (nls t k0 (plist t ((yN t s : Nat) : Int))).length ≤ 600) (x0 : mz (mk t) g0 g) (M : RM (RP t s (yN t s) (GS t s (yN t s))) g)
    (q : ∀ g', mz (mk t) g0 g' → RM (RP (nmc (nls t k0 (plist t ((yN t s : Nat) : Int))) t v) s (yN (nmc (nls t k0 (plist t ((yN t s : Nat) : Int))) t v) s) (GS (nmc (nls t k0 (plist t ((yN t s : Nat) : Int))) t v) s (yN (nmc (nls t k0 (plist t ((yN t s : Nat) : Int))) t v) s))) g' → Q 0 g') : Cl shM mX9_names [pR 0, pI ((yN t s : Nat) : Int), pI k0, pI v] g Q := by
  have hks : kd t s ≠ -1 := by rw [hk]; decide
  obtain ⟨_, ⟨y1, y2, y3, y4⟩, _, _⟩ := both_p w hs hk
  have tp : TP t s (yN t s) := ⟨⟨hs, hks⟩, ⟨y3, y4⟩, Or.inl y2⟩
  have pc := tp.pc w
  have wr := wf_RP w pc
  have hyG : ¬ GS t s (yN t s) (yN t s) = true := pc.2.2.2.1
  have hal : al (RP t s (yN t s) (GS t s (yN t s))) ((yN t s : Nat) : Int) := al_n.mpr ⟨y3, by rw [RP_k, if_neg hyG]; exact y4⟩
  have epl : plist (RP t s (yN t s) (GS t s (yN t s))) ((yN t s : Nat) : Int) = plist t ((yN t s : Nat) : Int) := by
    rw [plist_al hal, plist_al (al_n.mpr ⟨y3, y4⟩)]
    exact RP_pre w hs hk 40 1 _ (inT_s w)
  have hlen := plist_len (t := t) (z := ((yN t s : Nat) : Int)) w.trr
  have hmm := w.m
  refine sX9_names_0 (m_goes' wr M hal (fun g1 x1 hO _ => ?_))
  rw [epl] at hO ⊢
  have M1 := M.kp x1 (by decide)
  have x1 := x0.go x1
  -- the order is copied
  have key : ∀ (d i : Nat) (g2 : Hp), i + d = (plist t ((yN t s : Nat) : Int)).length → mz (mk t) g0 g2 → RM (RP t s (yN t s) (GS t s (yN t s))) g2 → g2.1 9 = g1.1 9 → (∀ j, j < i → g2.1 13 j = g1.1 9 j) → (∀ g3, mz (mk t) g0 g3 → RM (RP t s (yN t s) (GS t s (yN t s))) g3 → (∀ j p, (plist t ((yN t s : Nat) : Int))[j]? = some p → g3.1 13 j = (p.1 : Int)) → Ok shM 0 0 mX9_names 40 [some (pR 0), none, some (pI k0), some (pI v), some (pI ((plist t ((yN t s : Nat) : Int)).length : Int)), some (pI 0), none, none] [] g3 Q) → Ok shM 0 0 mX9_names 10 [some (pR 0), none, some (pI k0), some (pI v), some (pI ((plist t ((yN t s : Nat) : Int)).length : Int)), some (pI (i : Int)), none, none] [] g2 Q := by
    intro d
    induction d with
    | zero =>
      intro i g2 hi x2 M2 e9 e13 nx
      refine sX9_names_10 ⟨fun _ => nx g2 x2 M2 (fun j p hj => ?_), fun c => absurd c (by omega)⟩
      have hj2 := (List.getElem?_eq_some_iff.mp hj).1
      rw [e13 j (by omega)]
      exact hO j p hj
    | succ d ih =>
      intro i g2 hi x2 M2 e9 e13 nx
      refine sX9_names_10 ⟨fun c => absurd c (by omega), fun _ => ⟨i, rfl, by omega, by unfold inR; omega, ?_⟩⟩
      refine ih (i + 1) _ (by omega) (x2.A (Or.inr (Or.inl rfl))) (M2.oth (Or.inr (Or.inr (by decide))) _ _) ?_ (fun j hj => ?_) nx
      · funext j
        rw [hA_at, if_neg (by omega)]
        exact congrFun e9 j
      · rw [hA_at]
        by_cases e : j = i
        · rw [if_pos ⟨rfl, e⟩, e, e9]
        · rw [if_neg (fun y => e y.2)]
          exact e13 j (by omega)
  refine key _ 0 g1 (Nat.zero_add _) x1 M1 rfl (fun j hj => absurd hj (Nat.not_lt_zero _)) (fun g3 x3 M3 hA => ?_)
  -- name by name
  have key2 : ∀ (D2 D1 : List (Nat × Nat)) (U : TV) (g4 : Hp), D1 ++ D2 = plist t ((yN t s : Nat) : Int) → mz (mk t) g0 g4 → g4.1 13 = g3.1 13 → RM (RP U s (yN U s) (GS U s (yN U s))) g4 → IVN t U s D2 → nmc (nls t k0 D2) U v = nmc (nls t k0 (plist t ((yN t s : Nat) : Int))) t v → mk U + (nls t k0 D2).length = mk t + (nls t k0 (plist t ((yN t s : Nat) : Int))).length → Ok shM 0 0 mX9_names 40 [some (pR 0), none, some (pI k0), some (pI v), some (pI ((plist t ((yN t s : Nat) : Int)).length : Int)), some (pI (D1.length : Int)), none, none] [] g4 Q := by
    intro D2
    induction D2 with
    | nil =>
      intro D1 U g4 he x4 _ M4 I e1 _
      rw [List.append_nil] at he
      have e1 : U = _ := e1
      refine sX9_names_40 ⟨fun _ => q g4 x4 (by rw [← e1]; exact M4), fun c => absurd (by rw [← he]; exact Int.le_refl _) c⟩
    | cons p D2 ih =>
      intro D1 U g4 he x4 e13 M4 I e1 e2
      have hl : D1.length < (plist t ((yN t s : Nat) : Int)).length := by rw [← he]; simp
      have hq : (plist t ((yN t s : Nat) : Int))[D1.length]? = some p := by rw [← he]; simp
      have h13 : g4.1 13 D1.length = (p.1 : Int) := by rw [e13]; exact hA _ _ hq
      obtain ⟨a1, a2, a3, a4, a5, a6, a7⟩ := I
      have I : IVN t U s (p :: D2) := ⟨a1, a2, a3, a4, a5, a6, a7⟩
      obtain ⟨b1, b2', b3⟩ := a4 p List.mem_cons_self
      obtain ⟨_, ⟨z1, z2, z3, z4⟩, _, _⟩ := both_p a1 a2 a3
      have hpa := inT_al a1 z3 z4 b3
      have hmU := a1.m
      have hGp : ¬ GS U s (yN U s) p.1 = true := fun c => (GS_at.mp c).2 b3
      have ek : kd (RP U s (yN U s) (GS U s (yN U s))) p.1 = kd t p.1 := by rw [RP_k, if_neg hGp]; exact b1
      have en : nm (RP U s (yN U s) (GS U s (yN U s))) p.1 = nm t p.1 := by rw [RP_n, if_neg hGp]; exact b2'
      have hlen2 : ((D1 ++ [p]).length : Int) = (D1.length : Int) + 1 := by simp
      have nx := fun U' g5 => ih (D1 ++ [p]) U' g5 (by rw [← he]; simp)
      rw [hlen2] at nx
      have skip : ¬ (kd t p.1 = 1 ∧ nm t p.1 = k0) → Ok shM 0 0 mX9_names 40 [some (pR 0), none, some (pI k0), some (pI v), some (pI ((plist t ((yN t s : Nat) : Int)).length : Int)), some (pI ((D1.length : Int) + 1)), none, none] [] g4 Q := fun hn => by
        rw [nls, if_neg hn] at e1 e2
        exact nx U g4 x4 e13 M4 I.sk e1 e2
      refine sX9_names_40 ⟨fun c => absurd c (by omega), fun _ => ⟨D1.length, rfl, by omega, p.1, h13, by omega, ?_⟩⟩
      rw [h13, M4.k (show p.1 < mk (RP U s (yN U s) (GS U s (yN U s))) from hpa.1), M4.n (show p.1 < mk (RP U s (yN U s) (GS U s (yN U s))) from hpa.1), ek, en]
      refine ⟨fun c => ⟨by unfold inR; omega, skip (fun y => c y.1)⟩, fun c => ⟨fun c2 => ⟨by unfold inR; omega, skip (fun y => c2 y.2)⟩, fun c2 => ?_⟩⟩
      rw [nls, if_pos ⟨c, c2⟩] at e1 e2
      rw [List.length_cons] at e2
      have hmU2 : mk U < 600 := by omega
      obtain ⟨I2, hlf, hb2⟩ := I.st (v := v) c hmU2
      have wU := wf_RP a1 (TP.pc (t := U) (s := s) (p := yN U s) a1 ⟨⟨a2, by rw [a3]; decide⟩, ⟨z3, z4⟩, Or.inl z2⟩)
      have hlr : leaf (RP U s (yN U s) (GS U s (yN U s))) p.1 := leaf_nm wU hpa.1 (by rw [ek]; exact c)
      refine m_leafN wU hmU2 hlr (m := mk t) a6 x4 M4 (fun g5 x5 f13 M5 => ⟨by unfold inR; omega, ?_⟩)
      have M5 := M5.te (LR_RP (v := v) a1 hmU2 hlf hb2)
      exact nx (LR U p.1 v) g5 x5 (f13.trans e13) M5 I2 e1 (by rw [LR_mk]; omega)
  exact key2 _ [] t g3 rfl x3 rfl M3 (IVN.in0 w hs hk) rfl rfl
theorem m_works (w : WF t) (M : RM t g) (hs : s < mk t) (hks : kd t s ≠ -1) (h0 : hld t r s ≠ 0) (p1 : ¬ ful t r s → ∀ g', mz (mk t) g g' → RM (wrk t r s) g' → Q 1 g') (p0 : ful t r s → ∀ g', fm 9 11 g g' → Q 0 g') : Cl shM mX9_works [pR 0, pI (hld t r s), pI (s : Int)] g Q := by
  have hm := w.m
  obtain ⟨k1, k2, k3, k4, k5, k6⟩ := hld_kd t r s
  have nf : hld t r s ≠ 1 → hld t r s ≠ 3 → hld t r s ≠ 6 → ¬ ful t r s := fun a b c z => by
    rcases z with z | z
    · exact z.1.elim a b
    · exact c z.1
  have room : ∀ {P : Int → Hp → Prop} {g1 : Hp}, RM t g1 → ∀ n : Nat, n ≤ 600 → (mk t + n ≤ 600 → P 1 g1) → (¬ mk t + n ≤ 600 → P 0 g1) → Cl shM mX9_isRoomFor [pR 0, pI (n : Int)] g1 P := fun {P g1} M1 n hn a b => by
    refine sX9_isRoomFor_0 ?_
    rw [M1.1]
    exact ⟨by unfold inR; omega, fun c => b (by omega), fun c => a (by omega)⟩
  have num : ∀ v, hld t r s = 1 ∨ hld t r s = 3 → wrk t r s = LR t s v → mk t < 600 → Cl shM mX9_make [pR 0, pI 0, pI v] g (fun r3 h3 => Cl shM mX9_puts [pR 0, pI (s : Int), pI r3] h3 (fun _ h4 => Cl shM mX9_goesRest [pR 0, pI (s : Int)] h4 (fun _ h5 => Q 1 h5))) := fun v e13 ew hm6 => by
    rw [ew] at p1
    refine m_make M hm6 0 v (fun h1 y1 z1 M1 => ?_)
    refine m_replN (Q := fun h5 => Q 1 h5) (wf_mkN w hm6 v) (tp_new w hs hks) (tp_nch w hs hks) (mz.rf.mk y1 z1 (Nat.le_refl _)) M1 (p1 (fun z => ?_))
    rcases z with z | z
    · exact z.2 hm6
    · have := z.1
      omega
  have fl : hld t r s = 1 ∨ hld t r s = 3 → ¬ mk t + 1 ≤ 600 → Q 0 g := fun e13 c => p0 (Or.inl ⟨e13, by omega⟩) g fm.rf
  refine sX9_works_0 ⟨fun e => ?_, fun e1 => ⟨fun e3 => ⟨fun e6 => ⟨fun e2 => ⟨fun e4 => ?_, fun e4 => ?_⟩, fun e2 => ?_⟩, fun e6 => ?_⟩, fun e3 => ?_⟩⟩
  · have h2 := (k1 e).1
    obtain ⟨x1, x2, x3, x4⟩ := prt w hs hks (j := 0) (by rw [ar_2 (Or.inl h2)]; decide) (by decide)
    obtain ⟨y1, y2, y3, y4⟩ := prt w hs hks (j := 1) (by rw [ar_2 (Or.inl h2)]; decide) (by decide)
    have x3 : xN t s < mk t := x3
    have y3 : yN t s < mk t := y3
    have ep0 : g.1 3 (3 * s) = ((xN t s : Nat) : Int) := (M.p (k := 0) hs (by decide)).trans x1
    have ep1 : g.1 3 (3 * s + 1) = ((yN t s : Nat) : Int) := (M.p (k := 1) hs (by decide)).trans y1
    refine room M 1 (by decide) (fun c => ⟨fun _ => ⟨by unfold inR; omega, 3 * s, by omega, by omega, fun _ => ⟨s, rfl, by omega, xN t s, ep0, by omega, by unfold inR; omega, 3 * s + 1, by omega, by omega, yN t s, ep1, by omega, ?_⟩, fun c3 => absurd c3 (by omega)⟩, fun z => absurd z (by decide)⟩) (fun c => ⟨fun z => absurd rfl z, fun _ => fl (Or.inl e) c⟩)
    rw [M.n hs, M.n x3, M.n y3]
    refine m_worked _ _ _ (k1 e).2 (num _ (Or.inl e) ?_ (by omega))
    unfold wrk
    rw [if_pos e]
  · have e5 : hld t r s = 5 := by
      have := hld_r t r s
      omega
    obtain ⟨x1, x2, x3, x4⟩ := prt w hs hks (j := 0) (by rw [ar_1 (Or.inr (Or.inr (Or.inr (k5 e5))))]; decide) (by decide)
    have ep0 : g.1 3 (3 * s) = ((xN t s : Nat) : Int) := (M.p (k := 0) hs (by decide)).trans x1
    have ew : wrk t r s = RP t s (xN t s) (GS t s (xN t s)) := by
      unfold wrk
      rw [if_neg (by omega), if_neg (by omega), if_neg (by omega), if_neg (by omega), if_pos e5]
    rw [ew] at p1
    refine ⟨by unfold inR; omega, 3 * s, by omega, by omega, ?_⟩
    rw [ep0]
    exact m_becomes w ⟨hs, hks⟩ x2 mz.rf M (p1 (nf e1 e3 e6))
  · obtain ⟨y1, y2, y3, y4⟩ := (both_p w hs (k4 e4)).2.1
    have ep1 : g.1 3 (3 * s + 1) = ((yN t s : Nat) : Int) := (M.p (k := 1) hs (by decide)).trans y1
    have ew : wrk t r s = RP t s (yN t s) (GS t s (yN t s)) := by
      unfold wrk
      rw [if_neg (by omega), if_neg (by omega), if_neg (by omega), if_pos e4]
    rw [ew] at p1
    refine ⟨by unfold inR; omega, by unfold inR; omega, 3 * s + 1, by omega, by omega, ?_⟩
    rw [ep1]
    exact m_becomes w ⟨hs, hks⟩ y2 mz.rf M (p1 (nf e1 e3 e6))
  · obtain ⟨x1, x2, x3, x4⟩ := prt w hs hks (j := 0) (by rw [ar_3' (k2 e2)]; decide) (by decide)
    have x3 : xN t s < mk t := x3
    have ep0 : g.1 3 (3 * s) = ((xN t s : Nat) : Int) := (M.p (k := 0) hs (by decide)).trans x1
    obtain ⟨p, f1, f2, f3⟩ := pick_p w hs (k2 e2)
    have ew : wrk t r s = RP t s p (GS t s p) := by
      unfold wrk
      rw [if_neg (by omega), if_neg (by omega), if_pos e2, f1]
    rw [ew] at p1
    refine ⟨by unfold inR; omega, 3 * s, by omega, by omega, xN t s, ep0, by omega, ?_⟩
    rw [M.n x3]
    refine ⟨fun c => ⟨by unfold inR; omega, 3 * s + 2, by omega, by omega, ?_⟩, fun c => ⟨by unfold inR; omega, 3 * s + 1, by omega, by omega, ?_⟩⟩
    · rw [if_pos c] at f2
      rw [(M.p (k := 2) hs (by decide)).trans f2]
      exact m_becomes w ⟨hs, hks⟩ f3 mz.rf M (p1 (nf e1 e3 e6))
    · rw [if_neg c] at f2
      rw [(M.p (k := 1) hs (by decide)).trans f2]
      exact m_becomes w ⟨hs, hks⟩ f3 mz.rf M (p1 (nf e1 e3 e6))
  · obtain ⟨hk5, hx4, hz0, _⟩ := k6 e6
    obtain ⟨⟨x1, x2, x3, x4⟩, ⟨y1, y2, y3, y4⟩, _, _⟩ := both_p w hs hk5
    have x3 : xN t s < mk t := x3
    have y3 : yN t s < mk t := y3
    obtain ⟨z1, z2, z3, z4⟩ := prt w x3 (by rw [hx4]; decide) (j := 0) (by rw [ar_1 (Or.inl hx4)]; decide) (by decide)
    have z3 : xN t (xN t s) < mk t := z3
    have ep0 : g.1 3 (3 * s) = ((xN t s : Nat) : Int) := (M.p (k := 0) hs (by decide)).trans x1
    have ep1 : g.1 3 (3 * s + 1) = ((yN t s : Nat) : Int) := (M.p (k := 1) hs (by decide)).trans y1
    have ep2 : g.1 3 (3 * xN t s) = ((xN t (xN t s) : Nat) : Int) := (M.p (k := 0) x3 (by decide)).trans z1
    have ew : wrk t r s = RP (nmc (nls t (nm t (xN t s)) (plist t ((yN t s : Nat) : Int))) t (nm t (xN t (xN t s)))) s (yN (nmc (nls t (nm t (xN t s)) (plist t ((yN t s : Nat) : Int))) t (nm t (xN t (xN t s)))) s) (GS (nmc (nls t (nm t (xN t s)) (plist t ((yN t s : Nat) : Int))) t (nm t (xN t (xN t s)))) s (yN (nmc (nls t (nm t (xN t s)) (plist t ((yN t s : Nat) : Int))) t (nm t (xN t (xN t s)))) s)) := by
      unfold wrk
      rw [if_neg (by omega), if_neg (by omega), if_neg (by omega), if_neg (by omega), if_neg (by omega)]
    rw [ew] at p1
    refine ⟨by unfold inR; omega, 3 * s, by omega, by omega, by unfold inR; omega, 3 * s + 1, by omega, by omega, xN t s, ep0, by omega, ?_⟩
    rw [ep0]
    refine ⟨by unfold inR; omega, 3 * xN t s, by omega, by omega, xN t (xN t s), ep2, by omega, ?_⟩
    rw [ep1, M.n x3, M.n z3]
    refine m_howMany w M (al_n.mpr ⟨y3, y4⟩) 1 _ (fun h1 f1 => ?_)
    have M1 := M.kp f1 (by decide)
    rw [← nls_len]
    have hll : (nls t (nm t (xN t s)) (plist t ((yN t s : Nat) : Int))).length ≤ 600 := by
      rw [nls_len]
      have := hmy_le (t := t) 1 (nm t (xN t s)) (plist t ((yN t s : Nat) : Int))
      have := plist_len (t := t) (z := ((yN t s : Nat) : Int)) w.trr
      omega
    refine room M1 _ hll (fun c => ⟨fun _ => ?_, fun z => absurd z (by decide)⟩) (fun c => ⟨fun z => absurd rfl z, fun _ => p0 (Or.inr ⟨e6, c⟩) h1 f1⟩)
    refine m_becomes (m := mk t) w ⟨hs, hks⟩ y2 (mz.rf.go f1) M1 (fun h2 x2' M2 => ?_)
    refine m_names (Q := fun _ g' => Q 1 g') w hs hk5 c x2' M2 (p1 (fun z => ?_))
    rcases z with z | z
    · have := z.1
      omega
    · exact z.2 c
  · have h2 := k3 e3
    refine room M 1 (by decide) (fun c => ⟨fun _ => ⟨by unfold inR; omega, 3 * s, by omega, by omega, num 0 (Or.inr e3) ?_ (by omega)⟩, fun z => absurd z (by decide)⟩) (fun c => ⟨fun z => absurd rfl z, fun _ => fl (Or.inr e3) c⟩)
    unfold wrk
    rw [if_neg (by omega), if_pos e3]
end WM
end W2
