/-! KEPT ROWS: copyFrom, hold, bringBackHeld -/
/-- what copyFrom leaves: the first m steps and r routines of s's rows are in o's rows -/
def cpA (h : Hp) (o s m r : Nat) : Hp := copyTo (copyTo (copyTo (copyTo (copyTo (copyTo h (s + 1) (o + 1) 0 0 m) (s + 2) (o + 2) 0 0 m) (s + 3) (o + 3) 0 0 (3 * m)) (s + 4) (o + 4) 0 0 m) (s + 5) (o + 5) 0 0 r) (s + 6) (o + 6) 0 0 r
def cpR (h : Hp) (o s m r : Nat) : Hp := hI (hI (cpA h o s m r) o 6 m) o 7 r
theorem wAC : Cond.methodLink RX5 34 arraycopyName ∈ lw_u ∧ Cond.native arraycopyName ∈ lw_u ∧ Cond.static arraycopyName ∈ lw_u ∧ Cond.initialized "java/lang/System" ∈ lw_u := ⟨wd_510, wd_512, wd_511, wd_95⟩
theorem sX5_copyFrom_0 {o s m r : Nat} {h : Hp} {Post : Int → Hp → Prop} (ho : isRw h.2.2 o) (hs : isRw h.2.2 s) (hm : h.2.1 s 6 = (m : Int)) (hr : h.2.1 s 7 = (r : Int)) (m6 : m ≤ 600) (r1 : r ≤ 10) (K : Post 0 (cpR h o s m r)) :
    Cl shC mX5_copyFrom [pR o, pR s] h Post := by
  show Ok shC 0 0 mX5_copyFrom 0 [some (pR o), some (pR s)] [] h Post
  have so : ∀ i, i < 7 → (shC h.2.2)[o + i]? = (rowSh o)[i]? := fun i hi => shR ho hi
  have ss : ∀ i, i < 7 → (shC h.2.2)[s + i]? = (rowSh s)[i]? := fun i hi => shR hs hi
  refine Ok.aload_n (pc' := 1) rfl dX5_copyFrom_0 rfl ?_
  refine Ok.getR (pc' := 4) (o' := s + 1) (k := 0) dX5_copyFrom_1 rfl ((ss 0 (by decide)).trans rfl) rfl inX5 (by decide) rfl wd_117 rfl ?_
  refine Ok.iconst (pc' := 5) (by unfold inR; decide) dX5_copyFrom_4 rfl ?_
  refine Ok.aload_n (pc' := 6) rfl dX5_copyFrom_5 rfl ?_
  refine Ok.getR (pc' := 9) (o' := o + 1) (k := 0) dX5_copyFrom_6 rfl ((so 0 (by decide)).trans rfl) rfl inX5 (by decide) rfl wd_117 rfl ?_
  refine Ok.iconst (pc' := 10) (by unfold inR; decide) dX5_copyFrom_9 rfl ?_
  refine Ok.aload_n (pc' := 11) rfl dX5_copyFrom_10 rfl ?_
  refine Ok.getI (pc' := 14) (z := (m : Int)) (k := 6) dX5_copyFrom_11 rfl ((ss 0 (by decide)).trans rfl) rfl inX5 (by decide) rfl hm wd_131 rfl ?_
  refine Ok.copy (pc' := 17) (sp := 0) (dp := 0) (n := m) (na := 600) (nb := 600) (a := s + 1) (b := o + 1) (rest := []) dX5_copyFrom_14 rfl ((ss 1 (by decide)).trans rfl) ((so 1 (by decide)).trans rfl) (by decide) (by decide) ⟨rfl, rfl, by omega⟩ (by omega) (by omega) wAC (by decide) (leb rfl) ?_
  refine Ok.aload_n (pc' := 18) rfl dX5_copyFrom_17 rfl ?_
  refine Ok.getR (pc' := 21) (o' := s + 2) (k := 1) dX5_copyFrom_18 rfl ((ss 0 (by decide)).trans rfl) rfl inX5 (by decide) rfl wd_119 rfl ?_
  refine Ok.iconst (pc' := 22) (by unfold inR; decide) dX5_copyFrom_21 rfl ?_
  refine Ok.aload_n (pc' := 23) rfl dX5_copyFrom_22 rfl ?_
  refine Ok.getR (pc' := 26) (o' := o + 2) (k := 1) dX5_copyFrom_23 rfl ((so 0 (by decide)).trans rfl) rfl inX5 (by decide) rfl wd_119 rfl ?_
  refine Ok.iconst (pc' := 27) (by unfold inR; decide) dX5_copyFrom_26 rfl ?_
  refine Ok.aload_n (pc' := 28) rfl dX5_copyFrom_27 rfl ?_
  refine Ok.getI (pc' := 31) (z := (m : Int)) (k := 6) dX5_copyFrom_28 rfl ((ss 0 (by decide)).trans rfl) rfl inX5 (by decide) rfl hm wd_131 rfl ?_
  refine Ok.copy (pc' := 34) (sp := 0) (dp := 0) (n := m) (na := 600) (nb := 600) (a := s + 2) (b := o + 2) (rest := []) dX5_copyFrom_31 rfl ((ss 2 (by decide)).trans rfl) ((so 2 (by decide)).trans rfl) (by decide) (by decide) ⟨rfl, rfl, by omega⟩ (by omega) (by omega) wAC (by decide) (leb rfl) ?_
  refine Ok.aload_n (pc' := 35) rfl dX5_copyFrom_34 rfl ?_
  refine Ok.getR (pc' := 38) (o' := s + 3) (k := 2) dX5_copyFrom_35 rfl ((ss 0 (by decide)).trans rfl) rfl inX5 (by decide) rfl wd_121 rfl ?_
  refine Ok.iconst (pc' := 39) (by unfold inR; decide) dX5_copyFrom_38 rfl ?_
  refine Ok.aload_n (pc' := 40) rfl dX5_copyFrom_39 rfl ?_
  refine Ok.getR (pc' := 43) (o' := o + 3) (k := 2) dX5_copyFrom_40 rfl ((so 0 (by decide)).trans rfl) rfl inX5 (by decide) rfl wd_121 rfl ?_
  refine Ok.iconst (pc' := 44) (by unfold inR; decide) dX5_copyFrom_43 rfl ?_
  refine Ok.aload_n (pc' := 45) rfl dX5_copyFrom_44 rfl ?_
  refine Ok.getI (pc' := 48) (z := (m : Int)) (k := 6) dX5_copyFrom_45 rfl ((ss 0 (by decide)).trans rfl) rfl inX5 (by decide) rfl hm wd_131 rfl ?_
  refine Ok.iconst (pc' := 49) (by unfold inR; decide) dX5_copyFrom_48 rfl ?_
  refine Ok.imul (pc' := 50) dX5_copyFrom_49 rfl (by unfold inR; omega) ?_
  refine Ok.copy (pc' := 53) (sp := 0) (dp := 0) (n := (3 * m)) (na := 1800) (nb := 1800) (a := s + 3) (b := o + 3) (rest := []) dX5_copyFrom_50 rfl ((ss 3 (by decide)).trans rfl) ((so 3 (by decide)).trans rfl) (by decide) (by decide) ⟨rfl, rfl, by omega⟩ (by omega) (by omega) wAC (by decide) (leb rfl) ?_
  refine Ok.aload_n (pc' := 54) rfl dX5_copyFrom_53 rfl ?_
  refine Ok.getR (pc' := 57) (o' := s + 4) (k := 3) dX5_copyFrom_54 rfl ((ss 0 (by decide)).trans rfl) rfl inX5 (by decide) rfl wd_124 rfl ?_
  refine Ok.iconst (pc' := 58) (by unfold inR; decide) dX5_copyFrom_57 rfl ?_
  refine Ok.aload_n (pc' := 59) rfl dX5_copyFrom_58 rfl ?_
  refine Ok.getR (pc' := 62) (o' := o + 4) (k := 3) dX5_copyFrom_59 rfl ((so 0 (by decide)).trans rfl) rfl inX5 (by decide) rfl wd_124 rfl ?_
  refine Ok.iconst (pc' := 63) (by unfold inR; decide) dX5_copyFrom_62 rfl ?_
  refine Ok.aload_n (pc' := 64) rfl dX5_copyFrom_63 rfl ?_
  refine Ok.getI (pc' := 67) (z := (m : Int)) (k := 6) dX5_copyFrom_64 rfl ((ss 0 (by decide)).trans rfl) rfl inX5 (by decide) rfl hm wd_131 rfl ?_
  refine Ok.copy (pc' := 70) (sp := 0) (dp := 0) (n := m) (na := 600) (nb := 600) (a := s + 4) (b := o + 4) (rest := []) dX5_copyFrom_67 rfl ((ss 4 (by decide)).trans rfl) ((so 4 (by decide)).trans rfl) (by decide) (by decide) ⟨rfl, rfl, by omega⟩ (by omega) (by omega) wAC (by decide) (leb rfl) ?_
  refine Ok.aload_n (pc' := 71) rfl dX5_copyFrom_70 rfl ?_
  refine Ok.getR (pc' := 74) (o' := s + 5) (k := 4) dX5_copyFrom_71 rfl ((ss 0 (by decide)).trans rfl) rfl inX5 (by decide) rfl wd_126 rfl ?_
  refine Ok.iconst (pc' := 75) (by unfold inR; decide) dX5_copyFrom_74 rfl ?_
  refine Ok.aload_n (pc' := 76) rfl dX5_copyFrom_75 rfl ?_
  refine Ok.getR (pc' := 79) (o' := o + 5) (k := 4) dX5_copyFrom_76 rfl ((so 0 (by decide)).trans rfl) rfl inX5 (by decide) rfl wd_126 rfl ?_
  refine Ok.iconst (pc' := 80) (by unfold inR; decide) dX5_copyFrom_79 rfl ?_
  refine Ok.aload_n (pc' := 81) rfl dX5_copyFrom_80 rfl ?_
  refine Ok.getI (pc' := 84) (z := (r : Int)) (k := 7) dX5_copyFrom_81 rfl ((ss 0 (by decide)).trans rfl) rfl inX5 (by decide) rfl hr wd_136 rfl ?_
  refine Ok.copy (pc' := 87) (sp := 0) (dp := 0) (n := r) (na := 10) (nb := 10) (a := s + 5) (b := o + 5) (rest := []) dX5_copyFrom_84 rfl ((ss 5 (by decide)).trans rfl) ((so 5 (by decide)).trans rfl) (by decide) (by decide) ⟨rfl, rfl, by omega⟩ (by omega) (by omega) wAC (by decide) (leb rfl) ?_
  refine Ok.aload_n (pc' := 88) rfl dX5_copyFrom_87 rfl ?_
  refine Ok.getR (pc' := 91) (o' := s + 6) (k := 5) dX5_copyFrom_88 rfl ((ss 0 (by decide)).trans rfl) rfl inX5 (by decide) rfl wd_128 rfl ?_
  refine Ok.iconst (pc' := 92) (by unfold inR; decide) dX5_copyFrom_91 rfl ?_
  refine Ok.aload_n (pc' := 93) rfl dX5_copyFrom_92 rfl ?_
  refine Ok.getR (pc' := 96) (o' := o + 6) (k := 5) dX5_copyFrom_93 rfl ((so 0 (by decide)).trans rfl) rfl inX5 (by decide) rfl wd_128 rfl ?_
  refine Ok.iconst (pc' := 97) (by unfold inR; decide) dX5_copyFrom_96 rfl ?_
  refine Ok.aload_n (pc' := 98) rfl dX5_copyFrom_97 rfl ?_
  refine Ok.getI (pc' := 101) (z := (r : Int)) (k := 7) dX5_copyFrom_98 rfl ((ss 0 (by decide)).trans rfl) rfl inX5 (by decide) rfl hr wd_136 rfl ?_
  refine Ok.copy (pc' := 104) (sp := 0) (dp := 0) (n := r) (na := 10) (nb := 10) (a := s + 6) (b := o + 6) (rest := []) dX5_copyFrom_101 rfl ((ss 6 (by decide)).trans rfl) ((so 6 (by decide)).trans rfl) (by decide) (by decide) ⟨rfl, rfl, by omega⟩ (by omega) (by omega) wAC (by decide) (leb rfl) ?_
  refine Ok.aload_n (pc' := 105) rfl dX5_copyFrom_104 rfl ?_
  refine Ok.aload_n (pc' := 106) rfl dX5_copyFrom_105 rfl ?_
  refine Ok.getI (pc' := 109) (z := (m : Int)) (k := 6) dX5_copyFrom_106 rfl ((ss 0 (by decide)).trans rfl) rfl inX5 (by decide) rfl hm wd_131 rfl ?_
  refine Ok.putI (pc' := 112) (k := 6) dX5_copyFrom_109 rfl ((so 0 (by decide)).trans rfl) rfl inX5 tyX5 tyX5_ok nmX5 (by decide) rfl wd_131 rfl rfl (Or.inl rfl) ?_
  refine Ok.aload_n (pc' := 113) rfl dX5_copyFrom_112 rfl ?_
  refine Ok.aload_n (pc' := 114) rfl dX5_copyFrom_113 rfl ?_
  refine Ok.getI (pc' := 117) (z := (r : Int)) (k := 7) dX5_copyFrom_114 rfl ((ss 0 (by decide)).trans rfl) rfl inX5 (by decide) rfl (show (if s = o ∧ (7 : Nat) = 6 then (m : Int) else h.2.1 s 7) = (r : Int) by rw [if_neg (by omega)]; exact hr) wd_136 rfl ?_
  refine Ok.putI (pc' := 120) (k := 7) dX5_copyFrom_117 rfl ((so 0 (by decide)).trans rfl) rfl inX5 tyX5 tyX5_ok nmX5 (by decide) rfl wd_136 rfl rfl (Or.inl rfl) ?_
  exact Ok.vret dX5_copyFrom_120 rfl (by decide) K
