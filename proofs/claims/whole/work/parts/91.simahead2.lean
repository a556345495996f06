/-! BOTH SIDES: ahead -/
section SH
variable {st : St}
theorem mx_ma {g g' : Hp} (w : WS st) (M : MX st g) (x : ma (mk (sT st)) g g') : MX st g' := by
  obtain ⟨y1, y2, ⟨y3, y4, y5, y6, y7⟩, y8⟩ := M
  have fi : ∀ k, 24 ≤ k → g'.2.1 0 k = g.2.1 0 k := fun k hk => x.2.2.1 0 k (by omega)
  refine ⟨fun s hs => ?_, fun i hi => ?_, ⟨(fi 26 (by decide)).trans y3, (fi 24 (by decide)).trans y4, (fi 27 (by decide)).trans y5, ?_, (fi 30 (by decide)).trans y7⟩, y8.kp (fun k hk => fi k (by omega)) (x.1 27 (by decide))⟩
  · have e5 : g.1 5 s = sN st s := y1 s hs
    rcases x.2.1 s with e | ⟨e1, e2⟩
    · exact e.trans e5
    · rw [e2]
      exact (w.2.2.2.1 s e1).symm
  · rw [x.1 8 (by decide)]
    exact y2 i hi
  · rw [fi 31 (by decide), fi 28 (by decide)]
    exact y6
theorem aN_kq {t : TV} {r : Int} : ∀ (n : Nat) {U : TV} (V : TV), KQ t V → aN V r n = some U → KQ t U
  | 0, U, V, K, e => by
    have e : V = U := Option.some.inj e
    rw [← e]
    exact K
  | n + 1, U, V, K, e => by
    rw [aN] at e
    by_cases c : ftb V r = -4
    · rw [if_pos c] at e
      have e : V = U := Option.some.inj e
      rw [← e]
      exact K
    · rw [if_neg c] at e
      obtain ⟨s, es, hs, hks, hh⟩ := ftb_at K.1 c
      have ets : (ftb V r).toNat = s := by omega
      rw [ets] at e
      by_cases f : ful V r s
      · rw [if_pos (dC_t f)] at e
        cases e
      · rw [if_neg (fun q => f (dC_iff.mp q))] at e
        exact aN_kq n (wrk V r s) (K.st (kp_wrk K.1 hs hks hh f)) e
theorem sim_ahead (w : WS st) (r : Int) : Sim1 st mX8_ahead mX9_ahead [pI r] := by
  intro h g R M
  have hm := w.1.m
  by_cases ok : 0 ≤ r ∧ r < (rt (sT st) : Int)
  · obtain ⟨k, hk1, hk2, hk3⟩ := m_routI w.1 M.1 ok
    by_cases hb : bdI (sT st) r = -4
    · refine ⟨-2, st, w, sX8_ahead_0 (c_isRoutine R.1 r ⟨fun _ => c_isMissing R.1 r ⟨fun q => absurd hb (b2_0.mp q), fun _ => ⟨rfl, R⟩⟩, fun q => absurd ok (b2_0.mp q)⟩), sX9_ahead_0 (m_isRoutine M.1 r ⟨fun _ => ⟨k, hk1, hk2, ?_⟩, fun q => absurd ok (b2_0.mp q)⟩)⟩
      rw [hk3]
      exact ⟨fun q => absurd hb q, fun _ => ⟨rfl, M⟩⟩
    · have hal : al (sT st) (bdI (sT st) r) := by
        have e : bdI (sT st) r = bd (sT st) r.toNat := if_pos ok
        rw [e] at hb ⊢
        exact ((w.1.2.2.1 _ (by omega)).2.2.resolve_left hb).1
      have hlen := plist_len (t := sT st) (z := bdI (sT st) r) w.1.trr
      -- the class up to its question
      have cgo : ∀ (P : Int → Hp → Prop), (∀ h3, (∀ a, a < 46 → h3.1 a = h.1 a ∧ h3.2.1 a = h.2.1 a) → HU (sU st) (sT st) h3 → RC (sT st) h3 → ∀ h5, aw h3 h5 → RC (sT st) h5 → Cl shC mX7_workAhead [pR 30, pI r] h5 (fun r6 h6 => ((¬ r6 = 0) → Cl shC mX4_keepHeld [pR 38] h6 (fun _ h7 => Cl shC mX1_bodyOf [pR 1, pI r] h7 (fun r8 h8 => Cl shC mX1_sizeOf [pR 1, pI r8] h8 (fun r9 h9 => inR ((((plist (sT st) (bdI (sT st) r)).length : Int) - r9)) ∧ (P (((plist (sT st) (bdI (sT st) r)).length : Int) - r9) h9))))) ∧ ((r6 = 0) → Cl shC mX4_bringBackHeld [pR 38, pR 2] h6 (fun _ h10 => P (-3) h10)))) → Cl1 shC mX8_ahead [pR 0, pI r] h P := fun P q =>
        sX8_ahead_0 (c_isRoutine R.1 r ⟨fun _ => c_isMissing R.1 r ⟨fun _ => c_hold1 R.1 R.2.2 (fun h3 x3 H3 => by
          have R3 : RC (sT st) h3 := hk.rc (h := h) (fun a ha _ => x3 a ha) R.1
          refine c_bodyOf R3 r (c_sizeOf w.1 R3 _ (fun h5 f5 => q h3 x3 H3 R3 h5 (aw.rf.fr f5 (Or.inl ⟨by decide, by decide⟩)) (R3.kp f5 (Or.inl (by decide)))))), fun q => absurd (b2_n0.mp q) hb⟩, fun q => absurd ok (b2_0.mp q)⟩)
      -- the reference up to its loop
      have mgo : ∀ (P : Int → Hp → Prop), (∀ g2, MX st g2 → RM (sT st) g2 → keptS 12 (sT st) g2 → MP (sU st) g2 → Ok shM 0 0 mX9_ahead 47 [some (pR 0), some (pI r), some (pI ((plist (sT st) (bdI (sT st) r)).length : Int)), some (pI (mk (sT st) : Int)), some (pI 1), none, none, none] [] g2 P) → Cl shM mX9_ahead [pR 0, pI r] g P := fun P q => by
        refine sX9_ahead_0 (m_isRoutine M.1 r ⟨fun _ => ⟨k, hk1, hk2, ?_⟩, fun q => absurd ok (b2_0.mp q)⟩)
        rw [hk3]
        refine ⟨fun _ => m_writesDown M.1 (fun g1 f1 k12 kk => ?_), fun q => absurd q hb⟩
        have R1 : RM (sT st) g1 := f1.kf.rm M.1
        rw [R1.b (show k < rt (sT st) by omega)]
        have hbe : bdI (sT st) r = bd (sT st) k := by
          unfold bdI
          rw [if_pos ok, hk1, Int.toNat_natCast]
        rw [← hbe]
        refine m_goes' w.1 R1 hal (fun g2 f2 _ _ => ?_)
        have R2 := R1.kp f2 (by decide)
        rw [R2.1]
        have M1 : MX st g1 := M.2.1.kp (fun s _ => by rw [f1.1 5 (by decide)]) (f1.1 8 (by decide)) (f1.1 27 (by decide)) (fun k _ => by rw [f1.2])
        have MP1 : MP (sU st) g1 := ⟨by rw [f1.2]; exact M.2.2.1, fun i u hu => by
          have hi := (List.getElem?_eq_some_iff.mp hu).1
          have hlu := w.2.1
          exact kk i u (by omega) (w.2.2.1 u (List.mem_of_getElem? hu)).1.m (M.2.2.2 i u hu)⟩
        exact q g2 (mx_ma w M1 (ma.rf.go f2)) R2 (k12.kp (f2.1 19 (by decide)) (f2.1 20 (by decide)) (f2.1 21 (by decide))) (MP1.kp (by rw [f2.2]) (f2.1 19 (by decide)) (f2.1 20 (by decide)) (f2.1 21 (by decide)))
      have mp_ma : ∀ {g1 g2 : Hp}, MP (sU st) g1 → ma (mk (sT st)) g1 g2 → MP (sU st) g2 := fun {g1 g2} y x => y.kp (x.2.2.1 0 13 (by omega)) (x.1 19 (by decide)) (x.1 20 (by decide)) (x.1 21 (by decide))
      have cxe : ∀ {h3 h5 : Hp} (t' : TV) (us' : List TV), (∀ a, a < 46 → h3.1 a = h.1 a ∧ h3.2.1 a = h.2.1 a) → aw h3 h5 → CX (t', sN st, sW st, us', sQ st, sL st) h5 := fun {h3 h5} t' us' x y => by
        have c0 : CX (t', sN st, sW st, us', sQ st, sL st) h := R.2.1
        exact c0.kp ((y.1 19 (by decide)).2.trans (x 19 (by decide)).2) ((y.1 20 (by decide)).1.trans (x 20 (by decide)).1) ((y.1 21 (by decide)).1.trans (x 21 (by decide)).1) ((y.1 40 (by decide)).2.trans (x 40 (by decide)).2) ((y.1 44 (by decide)).1.trans (x 44 (by decide)).1)
      have hkr : k < rt (sT st) := by omega
      cases ea : aN (sT st) r 600 with
      | none =>
        refine ⟨-3, st, w, cgo _ (fun h3 x3 H3 R3 h5 x5 R5 => c_workAhead w.1 R5 (fun U e => ?_) (fun _ h6 x6 => ⟨fun q => absurd rfl q, fun _ => c_bring1 (H3.kp (x5.tr x6)) (fun h7 f7 R7 C7 => ⟨rfl, R7, ?_, C7⟩)⟩)), mgo _ (fun g2 MX2 R2 K2 MP2 => m_alop w.1 hk1 hkr hb _ K2 R2 (fun U e => ?_) (fun _ g3 g4 x3 b4 R4 => ⟨rfl, R4, ?_, ?_⟩))⟩
        · rw [ea] at e
          cases e
        · exact cxe (sT st) (sU st) x3 ((x5.tr x6).fr f7 (Or.inl ⟨by decide, by decide⟩))
        · rw [ea] at e
          cases e
        · have m3 := mx_ma w MX2 x3
          refine m3.kp (fun s _ => congrFun (b4.1 5 (by decide) (by decide) (by decide) (by decide) (by decide)) s) (b4.1 8 (by decide) (by decide) (by decide) (by decide) (by decide)) (b4.1 27 (by decide) (by decide) (by decide) (by decide) (by decide)) (fun k hk => ?_)
          rw [hI_at, if_neg (by omega), b4.2]
        · refine (mp_ma MP2 x3).kp ?_ (b4.1 19 (by decide) (by decide) (by decide) (by decide) (by decide)) (b4.1 20 (by decide) (by decide) (by decide) (by decide) (by decide)) (b4.1 21 (by decide) (by decide) (by decide) (by decide) (by decide))
          rw [hI_at, if_neg (by omega), b4.2]
      | some U =>
        have KU : ∀ V, aN (sT st) r 600 = some V → V = U := fun V e => by
          rw [ea] at e
          exact (Option.some.inj e).symm
        have hK : KQ (sT st) U := aN_kq 600 (sT st) (KQ.rf w.1) ea
        · have hbU : bdI U r ≠ -4 := by
            have h1 : bdI U r = bd U r.toNat := if_pos (by rw [hK.2.2.1]; exact ok)
            have h2 : bdI (sT st) r = bd (sT st) r.toNat := if_pos ok
            rw [h1]
            rw [h2] at hb
            exact fun q => hb ((hK.2.2.2.2.1 _).mp q)
          have hkU : k < rt U := by rw [hK.2.2.1]; exact hkr
          have hbe : bdI U r = bd U k := by
            unfold bdI
            rw [if_pos (by rw [hK.2.2.1]; exact ok), hk1, Int.toNat_natCast]
          have halU : al U (bdI U r) := by
            rw [hbe] at hbU ⊢
            exact ((hK.1.2.2.1 k hkU).2.2.resolve_left hbU).1
          have hlenU := plist_len (t := U) (z := bdI U r) hK.1.trr
          have hmU := hK.1.m
          have inr : inR (((plist (sT st) (bdI (sT st) r)).length : Int) - ((plist U (bdI U r)).length : Int)) := by unfold inR; omega
          refine ⟨((plist (sT st) (bdI (sT st) r)).length : Int) - ((plist U (bdI U r)).length : Int), _, ws_push2 w hK.1 hK.2.1 hK.2.2.1 hK.2.2.2.1, cgo _ (fun h3 x3 H3 R3 h5 x5 R5 => c_workAhead w.1 R5 (fun V e _ h6 x6 R6 => ?_) (fun e => ?_)), mgo _ (fun g2 MX2 R2 K2 MP2 => m_alop w.1 hk1 hkr hb _ K2 R2 (fun V e _ g3 x3 M3 => ?_) (fun e => ?_))⟩
          · have eV := KU V e
            subst eV
            refine ⟨fun _ => c_keep1 (H3.kp (x5.tr x6)) (fun h7 k7 ec7 C7 => ?_), fun q => absurd q (by decide)⟩
            have R7 := k7.rc R6
            refine c_bodyOf R7 r (c_sizeOf hK.1 R7 _ (fun h9 f9 => ⟨inr, rfl, R7.kp f9 (Or.inl (by decide)), ?_, C7.fw f9 (Or.inl (by decide))⟩))
            have c6 := cxe V (pushU (sU st) (sT st)) x3 (x5.tr x6)
            exact (k7.cx c6).fw f9 (Or.inl (by decide))
          · rw [ea] at e
            cases e
          · have eV := KU V e
            subst eV
            refine sX9_ahead_47 ⟨fun _ => m_keepIt (t := sT st) (us := sU st) (mp_ma MP2 x3) w.2.1 hm (fun u hu => (w.2.2.1 u hu).1.m) (K2.kp (x3.1 19 (by decide)) (x3.1 20 (by decide)) (x3.1 21 (by decide))) (fun g4 k4 MP4 => ⟨k, hk1, hk2, ?_⟩), fun c => absurd rfl c⟩
            have M4 : RM V g4 := k4.rm M3
            rw [M4.b hkU, ← hbe]
            refine m_goes' hK.1 M4 halU (fun g5 f5 _ _ => ⟨inr, rfl, M4.kp f5 (by decide), ?_, MP4.kp (by rw [f5.2]) (f5.1 19 (by decide)) (f5.1 20 (by decide)) (f5.1 21 (by decide))⟩)
            have m3a : MX st g3 := mx_ma w MX2 x3
            have m3 : MX (V, sN st, sW st, pushU (sU st) (sT st), sQ st, sL st) g3 := m3a
            refine m3.kp (fun s _ => ?_) ?_ ?_ (fun k hk => ?_)
            · rw [f5.1 5 (by decide), k4.1 5 (by decide)]
            · rw [f5.1 8 (by decide), k4.1 8 (by decide)]
            · rw [f5.1 27 (by decide), k4.1 27 (by decide)]
            · rw [f5.2]
              exact k4.2.1 0 k (by omega)
          · rw [ea] at e
            cases e
  · exact ⟨-1, st, w, sX8_ahead_0 (c_isRoutine R.1 r ⟨fun q => absurd (b2_n0.mp q) ok, fun _ => ⟨rfl, R⟩⟩), sX9_ahead_0 (m_isRoutine M.1 r ⟨fun q => absurd (b2_n0.mp q) ok, fun _ => ⟨rfl, M⟩⟩)⟩
end SH
