theorem sX0_hasLaidOut_0 {h : Hp} {Post : Int → Hp → Prop}
    (K : ((h.2.1 40 12 = (-4)) → Post 0 h) ∧ ((¬ h.2.1 40 12 = (-4)) → Post 1 h)) :
    Cl shC mX0_hasLaidOut [pR 40] h Post := by
  show Ok shC 0 0 mX0_hasLaidOut 0 [some (pR 40)] [] h Post
  refine Ok.aload_n (pc' := 1) rfl dX0_hasLaidOut_0 rfl ?_
  refine Ok.getI (pc' := 4) (z := h.2.1 40 12) (k := 12) dX0_hasLaidOut_1 rfl (shC_40 _) rfl inX0 (by decide) rfl rfl wd_354 rfl ?_
  refine Ok.bipush (pc' := 6) ⟨by decide, by decide⟩ dX0_hasLaidOut_4 rfl ?_
  refine Ok.icmp_eq (tgt := 13) dX0_hasLaidOut_6 rfl rfl (fun c1 => ?_) (fun c1 => ?_)
  · replace K := K.1 c1
    refine Ok.iconst (pc' := 14) in_0 dX0_hasLaidOut_13 rfl ?_
    exact Ok.zret dX0_hasLaidOut_14 rfl (by decide) (Or.inl rfl) K
  · replace K := K.2 c1
    refine Ok.iconst (pc' := 10) in_1 dX0_hasLaidOut_9 rfl ?_
    refine Ok.goto (tgt := 14) dX0_hasLaidOut_10 rfl ?_
    exact Ok.zret dX0_hasLaidOut_14 rfl (by decide) (Or.inr rfl) K
theorem sX0_latest_0 {what : Int} {h : Hp} {Post : Int → Hp → Prop}
    (K : ((what = 0) → Post (h.2.1 40 10) h) ∧ ((what = 1) → Post (h.2.1 40 11) h) ∧ ((¬ what = 0 ∧ ¬ what = 1) → ((what < 2) → Post (-4) h) ∧ ((¬ what < 2) → inR ((what - 2)) ∧ (((h.2.1 40 12 ≤ (what - 2)) → Post (-4) h) ∧ ((¬ h.2.1 40 12 ≤ (what - 2)) → ∃ k5 : Nat, (what - 2) = (k5 : Int) ∧ k5 < 12 ∧ (Post (h.1 44 k5) h)))))) :
    Cl shC mX0_latest [pR 40, pI what] h Post := by
  show Ok shC 0 0 mX0_latest 0 [some (pR 40), some (pI what)] [] h Post
  refine Ok.iload_n (pc' := 1) rfl dX0_latest_0 rfl ?_
  obtain ⟨Kc1_0, Kc1_1, Kc1_2⟩ := K
  refine Ok.lsw dX0_latest_1 rfl ⟨by decide, by decide⟩ (fun tgt ht => ?_)
  have hx : (what = 0) ∨ (what = 1) ∨ (¬ what = 0 ∧ ¬ what = 1) := by omega
  rcases hx with c1 | c1 | c1
  · obtain rfl : 28 = tgt := by rw [c1] at ht; exact Int.ofNat.inj ht
    have K := Kc1_0 c1
    refine Ok.aload_n (pc' := 29) rfl dX0_latest_28 rfl ?_
    refine Ok.getI (pc' := 32) (z := h.2.1 40 10) (k := 10) dX0_latest_29 rfl (shC_40 _) rfl inX0 (by decide) rfl rfl wd_352 rfl ?_
    exact Ok.iret dX0_latest_32 rfl (by decide) K
  · obtain rfl : 33 = tgt := by rw [c1] at ht; exact Int.ofNat.inj ht
    have K := Kc1_1 c1
    refine Ok.aload_n (pc' := 34) rfl dX0_latest_33 rfl ?_
    refine Ok.getI (pc' := 37) (z := h.2.1 40 11) (k := 11) dX0_latest_34 rfl (shC_40 _) rfl inX0 (by decide) rfl rfl wd_353 rfl ?_
    exact Ok.iret dX0_latest_37 rfl (by decide) K
  · obtain rfl : 38 = tgt := by rw [lsw_out2 c1.1 c1.2] at ht; exact Int.ofNat.inj ht
    have K := Kc1_2 c1
    refine Ok.iload_n (pc' := 39) rfl dX0_latest_38 rfl ?_
    refine Ok.iconst (pc' := 40) in_2 dX0_latest_39 rfl ?_
    refine Ok.icmp_lt (tgt := 64) dX0_latest_40 rfl rfl (fun c2 => ?_) (fun c2 => ?_)
    · replace K := K.1 c2
      refine Ok.bipush (pc' := 66) ⟨by decide, by decide⟩ dX0_latest_64 rfl ?_
      exact Ok.iret dX0_latest_66 rfl (by decide) K
    · replace K := K.2 c2
      refine Ok.iload_n (pc' := 44) rfl dX0_latest_43 rfl ?_
      refine Ok.iconst (pc' := 45) in_2 dX0_latest_44 rfl ?_
      obtain ⟨q3, K⟩ := K
      refine Ok.isub (pc' := 46) dX0_latest_45 rfl q3 ?_
      refine Ok.aload_n (pc' := 47) rfl dX0_latest_46 rfl ?_
      refine Ok.getI (pc' := 50) (z := h.2.1 40 12) (k := 12) dX0_latest_47 rfl (shC_40 _) rfl inX0 (by decide) rfl rfl wd_354 rfl ?_
      refine Ok.icmp_ge (tgt := 64) dX0_latest_50 rfl rfl (fun c4 => ?_) (fun c4 => ?_)
      · replace K := K.1 c4
        refine Ok.bipush (pc' := 66) ⟨by decide, by decide⟩ dX0_latest_64 rfl ?_
        exact Ok.iret dX0_latest_66 rfl (by decide) K
      · replace K := K.2 c4
        refine Ok.aload_n (pc' := 54) rfl dX0_latest_53 rfl ?_
        refine Ok.getR (pc' := 57) (k := 6) dX0_latest_54 rfl (shC_40 _) rfl inX0 (by decide) rfl wd_348 rfl ?_
        refine Ok.iload_n (pc' := 58) rfl dX0_latest_57 rfl ?_
        refine Ok.iconst (pc' := 59) in_2 dX0_latest_58 rfl ?_
        refine Ok.isub (pc' := 60) dX0_latest_59 rfl q3 ?_
        obtain ⟨k5, e5, q5, K⟩ := K
        refine Ok.iald (pc' := 61) (z := h.1 44 k5) dX0_latest_60 rfl (shC_44 _) (by decide) e5 q5 rfl ?_
        refine Ok.goto (tgt := 66) dX0_latest_61 rfl ?_
        exact Ok.iret dX0_latest_66 rfl (by decide) K
theorem sX0_layOut_0 {r budget : Int} {h : Hp} {Post : Int → Hp → Prop}
    (K : Cl shC mX0_lookAt [pR 40, pI r] h (fun _ h1 => Cl shC mX0_takePicked [pR 40, pI 0, pI 0] (hI h1 40 9 0) (fun _ h2 => Ok shC 0 0 mX0_layOut 27 [some (pR 40), none, some (pI budget), some (pI 0), some (pI 0), some (pI 0), some (pI 0)] [] h2 Post))) :
    Cl shC mX0_layOut [pR 40, pI r, pI budget] h Post := by
  show Ok shC 0 0 mX0_layOut 0 [some (pR 40), some (pI r), some (pI budget), none, none, none, none] [] h Post
  refine Ok.aload_n (pc' := 1) rfl dX0_layOut_0 rfl ?_
  refine Ok.iload_n (pc' := 2) rfl dX0_layOut_1 rfl ?_
  refine Ok.callV (pc' := 5) (av := [pI r]) (rest := []) dX0_layOut_2 rfl (by decide) cvX0_layOut_49 (shC_40 _) rfl rfl rfl (leb rfl) (leb rfl) K (fun r_ h1 K => ?_)
  show Ok shC 0 0 mX0_layOut 5 [some (pR 40), some (pI r), some (pI budget), none, none, none, none] [] h1 Post
  refine Ok.aload_n (pc' := 6) rfl dX0_layOut_5 rfl ?_
  refine Ok.iconst (pc' := 7) in_0 dX0_layOut_6 rfl ?_
  refine Ok.putI (pc' := 10) (k := 9) dX0_layOut_7 rfl (shC_40 _) rfl inX0 tyX0 tyX0_ok nmX0 (by decide) rfl wd_351 rfl rfl (Or.inl rfl) ?_
  refine Ok.aload_n (pc' := 11) rfl dX0_layOut_10 rfl ?_
  refine Ok.iconst (pc' := 12) in_0 dX0_layOut_11 rfl ?_
  refine Ok.iconst (pc' := 13) in_0 dX0_layOut_12 rfl ?_
  refine Ok.callV (pc' := 16) (av := [pI 0, pI 0]) (rest := []) dX0_layOut_13 rfl (by decide) cvX0_layOut_56 (shC_40 _) rfl rfl rfl (leb rfl) (leb rfl) K (fun r_ h2 K => ?_)
  show Ok shC 0 0 mX0_layOut 16 [some (pR 40), some (pI r), some (pI budget), none, none, none, none] [] h2 Post
  refine Ok.iconst (pc' := 17) in_0 dX0_layOut_16 rfl ?_
  refine Ok.istore_n (pc' := 18) (ls' := [some (pR 40), some (pI r), some (pI budget), some (pI 0), none, none, none]) dX0_layOut_17 rfl (by decide) rfl rfl ?_
  refine Ok.iconst (pc' := 19) in_0 dX0_layOut_18 rfl ?_
  refine Ok.istore (pc' := 21) (ls' := [some (pR 40), some (pI r), some (pI budget), some (pI 0), some (pI 0), none, none]) dX0_layOut_19 rfl (by decide) rfl rfl ?_
  refine Ok.iconst (pc' := 22) in_0 dX0_layOut_21 rfl ?_
  refine Ok.istore (pc' := 24) (ls' := [some (pR 40), some (pI r), some (pI budget), some (pI 0), some (pI 0), some (pI 0), none]) dX0_layOut_22 rfl (by decide) rfl rfl ?_
  refine Ok.iconst (pc' := 25) in_0 dX0_layOut_24 rfl ?_
  refine Ok.istore (pc' := 27) (ls' := [some (pR 40), some (pI r), some (pI budget), some (pI 0), some (pI 0), some (pI 0), some (pI 0)]) dX0_layOut_25 rfl (by decide) rfl rfl ?_
  exact Ok.fl (ls' := [some (pR 40), none, some (pI budget), some (pI 0), some (pI 0), some (pI 0), some (pI 0)]) K ⟨rfl, rfl, rfl, rfl, rfl, rfl, trivial⟩
theorem sX0_layOut_27 {budget v3 v4 v5 v6 : Int} {h : Hp} {Post : Int → Hp → Prop}
    (K : ((1000000 ≤ v6) → Post (h.2.1 40 12) h) ∧ ((¬ 1000000 ≤ v6) → ((v5 < h.2.1 40 8) → ∃ k3 : Nat, v5 = (k3 : Int) ∧ k3 < 12 ∧ (inR ((v4 + h.1 43 k3)) ∧ (((budget < (v4 + h.1 43 k3)) → inR ((v5 + 1)) ∧ (inR ((v6 + 1)) ∧ (Ok shC 0 0 mX0_layOut 27 [some (pR 40), none, some (pI budget), some (pI v3), some (pI v4), some (pI (v5 + 1)), some (pI (v6 + 1))] [] h Post))) ∧ ((¬ budget < (v4 + h.1 43 k3)) → ∃ k6 : Nat, h.2.1 40 9 = (k6 : Int) ∧ k6 < 12 ∧ (inR ((h.2.1 40 9 + 1)) ∧ (((h.2.1 40 10 < (wr (v3 + h.1 42 k3))) → Cl shC mX0_takePicked [pR 40, pI (wr (v3 + h.1 42 k3)), pI (v4 + h.1 43 k3)] (hI (hA h 45 k6 v5) 40 9 (h.2.1 40 9 + 1)) (fun _ h1 => inR ((v5 + 1)) ∧ (inR ((v6 + 1)) ∧ (Ok shC 0 0 mX0_layOut 27 [some (pR 40), none, some (pI budget), some (pI (wr (v3 + h.1 42 k3))), some (pI (v4 + h.1 43 k3)), some (pI (v5 + 1)), some (pI (v6 + 1))] [] h1 Post)))) ∧ ((¬ h.2.1 40 10 < (wr (v3 + h.1 42 k3))) → ((¬ (wr (v3 + h.1 42 k3)) = h.2.1 40 10) → inR ((v5 + 1)) ∧ (inR ((v6 + 1)) ∧ (Ok shC 0 0 mX0_layOut 27 [some (pR 40), none, some (pI budget), some (pI (wr (v3 + h.1 42 k3))), some (pI (v4 + h.1 43 k3)), some (pI (v5 + 1)), some (pI (v6 + 1))] [] (hI (hA h 45 k6 v5) 40 9 (h.2.1 40 9 + 1)) Post))) ∧ (((wr (v3 + h.1 42 k3)) = h.2.1 40 10) → ((h.2.1 40 11 ≤ (v4 + h.1 43 k3)) → inR ((v5 + 1)) ∧ (inR ((v6 + 1)) ∧ (Ok shC 0 0 mX0_layOut 27 [some (pR 40), none, some (pI budget), some (pI (wr (v3 + h.1 42 k3))), some (pI (v4 + h.1 43 k3)), some (pI (v5 + 1)), some (pI (v6 + 1))] [] (hI (hA h 45 k6 v5) 40 9 (h.2.1 40 9 + 1)) Post))) ∧ ((¬ h.2.1 40 11 ≤ (v4 + h.1 43 k3)) → Cl shC mX0_takePicked [pR 40, pI (wr (v3 + h.1 42 k3)), pI (v4 + h.1 43 k3)] (hI (hA h 45 k6 v5) 40 9 (h.2.1 40 9 + 1)) (fun _ h2 => inR ((v5 + 1)) ∧ (inR ((v6 + 1)) ∧ (Ok shC 0 0 mX0_layOut 27 [some (pR 40), none, some (pI budget), some (pI (wr (v3 + h.1 42 k3))), some (pI (v4 + h.1 43 k3)), some (pI (v5 + 1)), some (pI (v6 + 1))] [] h2 Post)))))))))))) ∧ ((¬ v5 < h.2.1 40 8) → ((h.2.1 40 9 ≤ 0) → Post (h.2.1 40 12) h) ∧ ((¬ h.2.1 40 9 ≤ 0) → inR ((h.2.1 40 9 - 1)) ∧ (∃ k5 : Nat, (h.2.1 40 9 - 1) = (k5 : Int) ∧ k5 < 12 ∧ (∃ k6 : Nat, h.1 45 k5 = (k6 : Int) ∧ k6 < 12 ∧ (inR ((v4 - h.1 43 k6)) ∧ (inR ((h.1 45 k5 + 1)) ∧ (inR ((v6 + 1)) ∧ (Ok shC 0 0 mX0_layOut 27 [some (pR 40), none, some (pI budget), some (pI (wr (v3 - h.1 42 k6))), some (pI (v4 - h.1 43 k6)), some (pI (h.1 45 k5 + 1)), some (pI (v6 + 1))] [] (hI h 40 9 (h.2.1 40 9 - 1)) Post)))))))))) :
    Ok shC 0 0 mX0_layOut 27 [some (pR 40), none, some (pI budget), some (pI v3), some (pI v4), some (pI v5), some (pI v6)] [] h Post := by
  show Ok shC 0 0 mX0_layOut 27 [some (pR 40), none, some (pI budget), some (pI v3), some (pI v4), some (pI v5), some (pI v6)] [] h Post
  refine Ok.iload (pc' := 29) rfl dX0_layOut_27 rfl ?_
  refine Ok.ldc (n := 1000000) (pc' := 31) ⟨by decide, by decide⟩ wd_932 (by decide) dX0_layOut_29 rfl ?_
  refine Ok.icmp_ge (tgt := 203) dX0_layOut_31 rfl rfl (fun c1 => ?_) (fun c1 => ?_)
  · replace K := K.1 c1
    refine Ok.aload_n (pc' := 204) rfl dX0_layOut_203 rfl ?_
    refine Ok.getI (pc' := 207) (z := h.2.1 40 12) (k := 12) dX0_layOut_204 rfl (shC_40 _) rfl inX0 (by decide) rfl rfl wd_354 rfl ?_
    exact Ok.iret dX0_layOut_207 rfl (by decide) K
  · replace K := K.2 c1
    refine Ok.iload (pc' := 36) rfl dX0_layOut_34 rfl ?_
    refine Ok.aload_n (pc' := 37) rfl dX0_layOut_36 rfl ?_
    refine Ok.getI (pc' := 40) (z := h.2.1 40 8) (k := 8) dX0_layOut_37 rfl (shC_40 _) rfl inX0 (by decide) rfl rfl wd_350 rfl ?_
    refine Ok.icmp_lt (tgt := 50) dX0_layOut_40 rfl rfl (fun c2 => ?_) (fun c2 => ?_)
    · replace K := K.1 c2
      refine Ok.iload (pc' := 52) rfl dX0_layOut_50 rfl ?_
      refine Ok.aload_n (pc' := 53) rfl dX0_layOut_52 rfl ?_
      refine Ok.getI (pc' := 56) (z := h.2.1 40 8) (k := 8) dX0_layOut_53 rfl (shC_40 _) rfl inX0 (by decide) rfl rfl wd_350 rfl ?_
      refine Ok.icmp_lt (tgt := 105) dX0_layOut_56 rfl rfl (fun _ => ?_) (fun z => absurd c2 z)
      refine Ok.iload (pc' := 107) rfl dX0_layOut_105 rfl ?_
      refine Ok.aload_n (pc' := 108) rfl dX0_layOut_107 rfl ?_
      refine Ok.getR (pc' := 111) (k := 5) dX0_layOut_108 rfl (shC_40 _) rfl inX0 (by decide) rfl wd_347 rfl ?_
      refine Ok.iload (pc' := 113) rfl dX0_layOut_111 rfl ?_
      obtain ⟨k3, e3, q3, K⟩ := K
      refine Ok.iald (pc' := 114) (z := h.1 43 k3) dX0_layOut_113 rfl (shC_43 _) (by decide) e3 q3 rfl ?_
      obtain ⟨q4, K⟩ := K
      refine Ok.iadd (pc' := 115) dX0_layOut_114 rfl q4 ?_
      refine Ok.iload_n (pc' := 116) rfl dX0_layOut_115 rfl ?_
      refine Ok.icmp_gt (tgt := 194) dX0_layOut_116 rfl rfl (fun c5 => ?_) (fun c5 => ?_)
      · replace K := K.1 c5
        obtain ⟨q6, K⟩ := K
        refine Ok.iinc (pc' := 197) (ls' := [some (pR 40), none, some (pI budget), some (pI v3), some (pI v4), some (pI (v5 + 1)), some (pI v6)]) dX0_layOut_194 rfl rfl (by decide) rfl rfl q6 ?_
        obtain ⟨q7, K⟩ := K
        refine Ok.iinc (pc' := 200) (ls' := [some (pR 40), none, some (pI budget), some (pI v3), some (pI v4), some (pI (v5 + 1)), some (pI (v6 + 1))]) dX0_layOut_197 rfl rfl (by decide) rfl rfl q7 ?_
        refine Ok.goto (tgt := 27) dX0_layOut_200 rfl ?_
        exact K
      · replace K := K.2 c5
        refine Ok.aload_n (pc' := 120) rfl dX0_layOut_119 rfl ?_
        refine Ok.getR (pc' := 123) (k := 7) dX0_layOut_120 rfl (shC_40 _) rfl inX0 (by decide) rfl wd_349 rfl ?_
        refine Ok.aload_n (pc' := 124) rfl dX0_layOut_123 rfl ?_
        refine Ok.getI (pc' := 127) (z := h.2.1 40 9) (k := 9) dX0_layOut_124 rfl (shC_40 _) rfl inX0 (by decide) rfl rfl wd_351 rfl ?_
        refine Ok.iload (pc' := 129) rfl dX0_layOut_127 rfl ?_
        obtain ⟨k6, e6, q6, K⟩ := K
        refine Ok.iast (pc' := 130) dX0_layOut_129 rfl (shC_45 _) (by decide) e6 q6 ?_
        refine Ok.aload_n (pc' := 131) rfl dX0_layOut_130 rfl ?_
        refine Ok.dup (pc' := 132) dX0_layOut_131 rfl rfl ?_
        refine Ok.getI (pc' := 135) (z := h.2.1 40 9) (k := 9) dX0_layOut_132 rfl (shC_40 _) rfl inX0 (by decide) rfl rfl wd_351 rfl ?_
        refine Ok.iconst (pc' := 136) in_1 dX0_layOut_135 rfl ?_
        obtain ⟨q7, K⟩ := K
        refine Ok.iadd (pc' := 137) dX0_layOut_136 rfl q7 ?_
        refine Ok.putI (pc' := 140) (k := 9) dX0_layOut_137 rfl (shC_40 _) rfl inX0 tyX0 tyX0_ok nmX0 (by decide) rfl wd_351 rfl rfl (Or.inl rfl) ?_
        refine Ok.iload_n (pc' := 141) rfl dX0_layOut_140 rfl ?_
        refine Ok.aload_n (pc' := 142) rfl dX0_layOut_141 rfl ?_
        refine Ok.getR (pc' := 145) (k := 4) dX0_layOut_142 rfl (shC_40 _) rfl inX0 (by decide) rfl wd_346 rfl ?_
        refine Ok.iload (pc' := 147) rfl dX0_layOut_145 rfl ?_
        refine Ok.iald (pc' := 148) (z := h.1 42 k3) dX0_layOut_147 rfl (shC_42 _) (by decide) e3 q3 rfl ?_
        refine Ok.iaddw (pc' := 149) dX0_layOut_148 rfl ?_
        refine Ok.istore_n (pc' := 150) (ls' := [some (pR 40), none, some (pI budget), some (pI (wr (v3 + h.1 42 k3))), some (pI v4), some (pI v5), some (pI v6)]) dX0_layOut_149 rfl (by decide) rfl rfl ?_
        refine Ok.iload (pc' := 152) rfl dX0_layOut_150 rfl ?_
        refine Ok.aload_n (pc' := 153) rfl dX0_layOut_152 rfl ?_
        refine Ok.getR (pc' := 156) (k := 5) dX0_layOut_153 rfl (shC_40 _) rfl inX0 (by decide) rfl wd_347 rfl ?_
        refine Ok.iload (pc' := 158) rfl dX0_layOut_156 rfl ?_
        refine Ok.iald (pc' := 159) (z := h.1 43 k3) dX0_layOut_158 rfl (shC_43 _) (by decide) e3 q3 rfl ?_
        refine Ok.iadd (pc' := 160) dX0_layOut_159 rfl q4 ?_
        refine Ok.istore (pc' := 162) (ls' := [some (pR 40), none, some (pI budget), some (pI (wr (v3 + h.1 42 k3))), some (pI (v4 + h.1 43 k3)), some (pI v5), some (pI v6)]) dX0_layOut_160 rfl (by decide) rfl rfl ?_
        refine Ok.iload_n (pc' := 163) rfl dX0_layOut_162 rfl ?_
        refine Ok.aload_n (pc' := 164) rfl dX0_layOut_163 rfl ?_
        refine Ok.getI (pc' := 167) (z := h.2.1 40 10) (k := 10) dX0_layOut_164 rfl (shC_40 _) rfl inX0 (by decide) rfl rfl wd_352 rfl ?_
        refine Ok.icmp_gt (tgt := 187) dX0_layOut_167 rfl rfl (fun c8 => ?_) (fun c8 => ?_)
        · replace K := K.1 c8
          refine Ok.aload_n (pc' := 188) rfl dX0_layOut_187 rfl ?_
          refine Ok.iload_n (pc' := 189) rfl dX0_layOut_188 rfl ?_
          refine Ok.iload (pc' := 191) rfl dX0_layOut_189 rfl ?_
          refine Ok.callV (pc' := 194) (av := [pI (wr (v3 + h.1 42 k3)), pI (v4 + h.1 43 k3)]) (rest := []) dX0_layOut_191 rfl (by decide) cvX0_layOut_56 (shC_40 _) rfl rfl rfl (leb rfl) (leb rfl) K (fun r_ h1 K => ?_)
          show Ok shC 0 0 mX0_layOut 194 [some (pR 40), none, some (pI budget), some (pI (wr (v3 + h.1 42 k3))), some (pI (v4 + h.1 43 k3)), some (pI v5), some (pI v6)] [] h1 Post
          obtain ⟨q9, K⟩ := K
          refine Ok.iinc (pc' := 197) (ls' := [some (pR 40), none, some (pI budget), some (pI (wr (v3 + h.1 42 k3))), some (pI (v4 + h.1 43 k3)), some (pI (v5 + 1)), some (pI v6)]) dX0_layOut_194 rfl rfl (by decide) rfl rfl q9 ?_
          obtain ⟨q10, K⟩ := K
          refine Ok.iinc (pc' := 200) (ls' := [some (pR 40), none, some (pI budget), some (pI (wr (v3 + h.1 42 k3))), some (pI (v4 + h.1 43 k3)), some (pI (v5 + 1)), some (pI (v6 + 1))]) dX0_layOut_197 rfl rfl (by decide) rfl rfl q10 ?_
          refine Ok.goto (tgt := 27) dX0_layOut_200 rfl ?_
          exact K
        · replace K := K.2 c8
          refine Ok.iload_n (pc' := 171) rfl dX0_layOut_170 rfl ?_
          refine Ok.aload_n (pc' := 172) rfl dX0_layOut_171 rfl ?_
          refine Ok.getI (pc' := 175) (z := h.2.1 40 10) (k := 10) dX0_layOut_172 rfl (shC_40 _) rfl inX0 (by decide) rfl rfl wd_352 rfl ?_
          refine Ok.icmp_ne (tgt := 194) dX0_layOut_175 rfl rfl (fun c9 => ?_) (fun c9 => ?_)
          · replace K := K.1 c9
            obtain ⟨q10, K⟩ := K
            refine Ok.iinc (pc' := 197) (ls' := [some (pR 40), none, some (pI budget), some (pI (wr (v3 + h.1 42 k3))), some (pI (v4 + h.1 43 k3)), some (pI (v5 + 1)), some (pI v6)]) dX0_layOut_194 rfl rfl (by decide) rfl rfl q10 ?_
            obtain ⟨q11, K⟩ := K
            refine Ok.iinc (pc' := 200) (ls' := [some (pR 40), none, some (pI budget), some (pI (wr (v3 + h.1 42 k3))), some (pI (v4 + h.1 43 k3)), some (pI (v5 + 1)), some (pI (v6 + 1))]) dX0_layOut_197 rfl rfl (by decide) rfl rfl q11 ?_
            refine Ok.goto (tgt := 27) dX0_layOut_200 rfl ?_
            exact K
          · replace K := K.2 c9
            refine Ok.iload (pc' := 180) rfl dX0_layOut_178 rfl ?_
            refine Ok.aload_n (pc' := 181) rfl dX0_layOut_180 rfl ?_
            refine Ok.getI (pc' := 184) (z := h.2.1 40 11) (k := 11) dX0_layOut_181 rfl (shC_40 _) rfl inX0 (by decide) rfl rfl wd_353 rfl ?_
            refine Ok.icmp_ge (tgt := 194) dX0_layOut_184 rfl rfl (fun c10 => ?_) (fun c10 => ?_)
            · replace K := K.1 c10
              obtain ⟨q11, K⟩ := K
              refine Ok.iinc (pc' := 197) (ls' := [some (pR 40), none, some (pI budget), some (pI (wr (v3 + h.1 42 k3))), some (pI (v4 + h.1 43 k3)), some (pI (v5 + 1)), some (pI v6)]) dX0_layOut_194 rfl rfl (by decide) rfl rfl q11 ?_
              obtain ⟨q12, K⟩ := K
              refine Ok.iinc (pc' := 200) (ls' := [some (pR 40), none, some (pI budget), some (pI (wr (v3 + h.1 42 k3))), some (pI (v4 + h.1 43 k3)), some (pI (v5 + 1)), some (pI (v6 + 1))]) dX0_layOut_197 rfl rfl (by decide) rfl rfl q12 ?_
              refine Ok.goto (tgt := 27) dX0_layOut_200 rfl ?_
              exact K
            · replace K := K.2 c10
              refine Ok.aload_n (pc' := 188) rfl dX0_layOut_187 rfl ?_
              refine Ok.iload_n (pc' := 189) rfl dX0_layOut_188 rfl ?_
              refine Ok.iload (pc' := 191) rfl dX0_layOut_189 rfl ?_
              refine Ok.callV (pc' := 194) (av := [pI (wr (v3 + h.1 42 k3)), pI (v4 + h.1 43 k3)]) (rest := []) dX0_layOut_191 rfl (by decide) cvX0_layOut_56 (shC_40 _) rfl rfl rfl (leb rfl) (leb rfl) K (fun r_ h2 K => ?_)
              show Ok shC 0 0 mX0_layOut 194 [some (pR 40), none, some (pI budget), some (pI (wr (v3 + h.1 42 k3))), some (pI (v4 + h.1 43 k3)), some (pI v5), some (pI v6)] [] h2 Post
              obtain ⟨q11, K⟩ := K
              refine Ok.iinc (pc' := 197) (ls' := [some (pR 40), none, some (pI budget), some (pI (wr (v3 + h.1 42 k3))), some (pI (v4 + h.1 43 k3)), some (pI (v5 + 1)), some (pI v6)]) dX0_layOut_194 rfl rfl (by decide) rfl rfl q11 ?_
              obtain ⟨q12, K⟩ := K
              refine Ok.iinc (pc' := 200) (ls' := [some (pR 40), none, some (pI budget), some (pI (wr (v3 + h.1 42 k3))), some (pI (v4 + h.1 43 k3)), some (pI (v5 + 1)), some (pI (v6 + 1))]) dX0_layOut_197 rfl rfl (by decide) rfl rfl q12 ?_
              refine Ok.goto (tgt := 27) dX0_layOut_200 rfl ?_
              exact K
    · replace K := K.2 c2
      refine Ok.aload_n (pc' := 44) rfl dX0_layOut_43 rfl ?_
      refine Ok.getI (pc' := 47) (z := h.2.1 40 9) (k := 9) dX0_layOut_44 rfl (shC_40 _) rfl inX0 (by decide) rfl rfl wd_351 rfl ?_
      refine Ok.if_le (tgt := 203) dX0_layOut_47 rfl rfl (fun c3 => ?_) (fun c3 => ?_)
      · replace K := K.1 c3
        refine Ok.aload_n (pc' := 204) rfl dX0_layOut_203 rfl ?_
        refine Ok.getI (pc' := 207) (z := h.2.1 40 12) (k := 12) dX0_layOut_204 rfl (shC_40 _) rfl inX0 (by decide) rfl rfl wd_354 rfl ?_
        exact Ok.iret dX0_layOut_207 rfl (by decide) K
      · replace K := K.2 c3
        refine Ok.iload (pc' := 52) rfl dX0_layOut_50 rfl ?_
        refine Ok.aload_n (pc' := 53) rfl dX0_layOut_52 rfl ?_
        refine Ok.getI (pc' := 56) (z := h.2.1 40 8) (k := 8) dX0_layOut_53 rfl (shC_40 _) rfl inX0 (by decide) rfl rfl wd_350 rfl ?_
        refine Ok.icmp_lt (tgt := 105) dX0_layOut_56 rfl rfl (fun z => absurd z c2) (fun _ => ?_)
        refine Ok.aload_n (pc' := 60) rfl dX0_layOut_59 rfl ?_
        refine Ok.dup (pc' := 61) dX0_layOut_60 rfl rfl ?_
        refine Ok.getI (pc' := 64) (z := h.2.1 40 9) (k := 9) dX0_layOut_61 rfl (shC_40 _) rfl inX0 (by decide) rfl rfl wd_351 rfl ?_
        refine Ok.iconst (pc' := 65) in_1 dX0_layOut_64 rfl ?_
        obtain ⟨q4, K⟩ := K
        refine Ok.isub (pc' := 66) dX0_layOut_65 rfl q4 ?_
        refine Ok.putI (pc' := 69) (k := 9) dX0_layOut_66 rfl (shC_40 _) rfl inX0 tyX0 tyX0_ok nmX0 (by decide) rfl wd_351 rfl rfl (Or.inl rfl) ?_
        refine Ok.aload_n (pc' := 70) rfl dX0_layOut_69 rfl ?_
        refine Ok.getR (pc' := 73) (k := 7) dX0_layOut_70 rfl (shC_40 _) rfl inX0 (by decide) rfl wd_349 rfl ?_
        refine Ok.aload_n (pc' := 74) rfl dX0_layOut_73 rfl ?_
        refine Ok.getI (pc' := 77) (z := (h.2.1 40 9 - 1)) (k := 9) dX0_layOut_74 rfl (shC_40 _) rfl inX0 (by decide) rfl rfl wd_351 rfl ?_
        obtain ⟨k5, e5, q5, K⟩ := K
        refine Ok.iald (pc' := 78) (z := h.1 45 k5) dX0_layOut_77 rfl (shC_45 _) (by decide) e5 q5 rfl ?_
        refine Ok.istore (pc' := 80) (ls' := [some (pR 40), none, some (pI budget), some (pI v3), some (pI v4), some (pI (h.1 45 k5)), some (pI v6)]) dX0_layOut_78 rfl (by decide) rfl rfl ?_
        refine Ok.iload_n (pc' := 81) rfl dX0_layOut_80 rfl ?_
        refine Ok.aload_n (pc' := 82) rfl dX0_layOut_81 rfl ?_
        refine Ok.getR (pc' := 85) (k := 4) dX0_layOut_82 rfl (shC_40 _) rfl inX0 (by decide) rfl wd_346 rfl ?_
        refine Ok.iload (pc' := 87) rfl dX0_layOut_85 rfl ?_
        obtain ⟨k6, e6, q6, K⟩ := K
        refine Ok.iald (pc' := 88) (z := h.1 42 k6) dX0_layOut_87 rfl (shC_42 _) (by decide) e6 q6 rfl ?_
        refine Ok.isubw (pc' := 89) dX0_layOut_88 rfl ?_
        refine Ok.istore_n (pc' := 90) (ls' := [some (pR 40), none, some (pI budget), some (pI (wr (v3 - h.1 42 k6))), some (pI v4), some (pI (h.1 45 k5)), some (pI v6)]) dX0_layOut_89 rfl (by decide) rfl rfl ?_
        refine Ok.iload (pc' := 92) rfl dX0_layOut_90 rfl ?_
        refine Ok.aload_n (pc' := 93) rfl dX0_layOut_92 rfl ?_
        refine Ok.getR (pc' := 96) (k := 5) dX0_layOut_93 rfl (shC_40 _) rfl inX0 (by decide) rfl wd_347 rfl ?_
        refine Ok.iload (pc' := 98) rfl dX0_layOut_96 rfl ?_
        refine Ok.iald (pc' := 99) (z := h.1 43 k6) dX0_layOut_98 rfl (shC_43 _) (by decide) e6 q6 rfl ?_
        obtain ⟨q7, K⟩ := K
        refine Ok.isub (pc' := 100) dX0_layOut_99 rfl q7 ?_
        refine Ok.istore (pc' := 102) (ls' := [some (pR 40), none, some (pI budget), some (pI (wr (v3 - h.1 42 k6))), some (pI (v4 - h.1 43 k6)), some (pI (h.1 45 k5)), some (pI v6)]) dX0_layOut_100 rfl (by decide) rfl rfl ?_
        refine Ok.goto (tgt := 194) dX0_layOut_102 rfl ?_
        obtain ⟨q8, K⟩ := K
        refine Ok.iinc (pc' := 197) (ls' := [some (pR 40), none, some (pI budget), some (pI (wr (v3 - h.1 42 k6))), some (pI (v4 - h.1 43 k6)), some (pI (h.1 45 k5 + 1)), some (pI v6)]) dX0_layOut_194 rfl rfl (by decide) rfl rfl q8 ?_
        obtain ⟨q9, K⟩ := K
        refine Ok.iinc (pc' := 200) (ls' := [some (pR 40), none, some (pI budget), some (pI (wr (v3 - h.1 42 k6))), some (pI (v4 - h.1 43 k6)), some (pI (h.1 45 k5 + 1)), some (pI (v6 + 1))]) dX0_layOut_197 rfl rfl (by decide) rfl rfl q9 ?_
        refine Ok.goto (tgt := 27) dX0_layOut_200 rfl ?_
        exact K
theorem sX0_takePicked_0 {gain weight : Int} {h : Hp} {Post : Int → Hp → Prop}
    (K : Ok shC 0 0 mX0_takePicked 20 [some (pR 40), none, none, some (pI 0)] [] (hI (hI (hI h 40 10 gain) 40 11 weight) 40 12 (h.2.1 40 9)) Post) :
    Cl shC mX0_takePicked [pR 40, pI gain, pI weight] h Post := by
  show Ok shC 0 0 mX0_takePicked 0 [some (pR 40), some (pI gain), some (pI weight), none] [] h Post
  refine Ok.aload_n (pc' := 1) rfl dX0_takePicked_0 rfl ?_
  refine Ok.iload_n (pc' := 2) rfl dX0_takePicked_1 rfl ?_
  refine Ok.putI (pc' := 5) (k := 10) dX0_takePicked_2 rfl (shC_40 _) rfl inX0 tyX0 tyX0_ok nmX0 (by decide) rfl wd_352 rfl rfl (Or.inl rfl) ?_
  refine Ok.aload_n (pc' := 6) rfl dX0_takePicked_5 rfl ?_
  refine Ok.iload_n (pc' := 7) rfl dX0_takePicked_6 rfl ?_
  refine Ok.putI (pc' := 10) (k := 11) dX0_takePicked_7 rfl (shC_40 _) rfl inX0 tyX0 tyX0_ok nmX0 (by decide) rfl wd_353 rfl rfl (Or.inl rfl) ?_
  refine Ok.aload_n (pc' := 11) rfl dX0_takePicked_10 rfl ?_
  refine Ok.aload_n (pc' := 12) rfl dX0_takePicked_11 rfl ?_
  refine Ok.getI (pc' := 15) (z := h.2.1 40 9) (k := 9) dX0_takePicked_12 rfl (shC_40 _) rfl inX0 (by decide) rfl rfl wd_351 rfl ?_
  refine Ok.putI (pc' := 18) (k := 12) dX0_takePicked_15 rfl (shC_40 _) rfl inX0 tyX0 tyX0_ok nmX0 (by decide) rfl wd_354 rfl rfl (Or.inl rfl) ?_
  refine Ok.iconst (pc' := 19) in_0 dX0_takePicked_18 rfl ?_
  refine Ok.istore_n (pc' := 20) (ls' := [some (pR 40), some (pI gain), some (pI weight), some (pI 0)]) dX0_takePicked_19 rfl (by decide) rfl rfl ?_
  exact Ok.fl (ls' := [some (pR 40), none, none, some (pI 0)]) K ⟨rfl, rfl, trivial⟩
theorem sX0_takePicked_20 {v3 : Int} {h : Hp} {Post : Int → Hp → Prop}
    (K : ((h.2.1 40 9 ≤ v3) → Post 0 h) ∧ ((¬ h.2.1 40 9 ≤ v3) → ∃ k2 : Nat, v3 = (k2 : Int) ∧ k2 < 12 ∧ (∃ k3 : Nat, h.1 45 k2 = (k3 : Int) ∧ k3 < 12 ∧ (inR ((v3 + 1)) ∧ (Ok shC 0 0 mX0_takePicked 20 [some (pR 40), none, none, some (pI (v3 + 1))] [] (hA h 44 k2 (h.1 41 k3)) Post))))) :
    Ok shC 0 0 mX0_takePicked 20 [some (pR 40), none, none, some (pI v3)] [] h Post := by
  show Ok shC 0 0 mX0_takePicked 20 [some (pR 40), none, none, some (pI v3)] [] h Post
  refine Ok.iload_n (pc' := 21) rfl dX0_takePicked_20 rfl ?_
  refine Ok.aload_n (pc' := 22) rfl dX0_takePicked_21 rfl ?_
  refine Ok.getI (pc' := 25) (z := h.2.1 40 9) (k := 9) dX0_takePicked_22 rfl (shC_40 _) rfl inX0 (by decide) rfl rfl wd_351 rfl ?_
  refine Ok.icmp_ge (tgt := 51) dX0_takePicked_25 rfl rfl (fun c1 => ?_) (fun c1 => ?_)
  · replace K := K.1 c1
    exact Ok.vret dX0_takePicked_51 rfl (by decide) K
  · replace K := K.2 c1
    refine Ok.aload_n (pc' := 29) rfl dX0_takePicked_28 rfl ?_
    refine Ok.getR (pc' := 32) (k := 6) dX0_takePicked_29 rfl (shC_40 _) rfl inX0 (by decide) rfl wd_348 rfl ?_
    refine Ok.iload_n (pc' := 33) rfl dX0_takePicked_32 rfl ?_
    refine Ok.aload_n (pc' := 34) rfl dX0_takePicked_33 rfl ?_
    refine Ok.getR (pc' := 37) (k := 3) dX0_takePicked_34 rfl (shC_40 _) rfl inX0 (by decide) rfl wd_345 rfl ?_
    refine Ok.aload_n (pc' := 38) rfl dX0_takePicked_37 rfl ?_
    refine Ok.getR (pc' := 41) (k := 7) dX0_takePicked_38 rfl (shC_40 _) rfl inX0 (by decide) rfl wd_349 rfl ?_
    refine Ok.iload_n (pc' := 42) rfl dX0_takePicked_41 rfl ?_
    obtain ⟨k2, e2, q2, K⟩ := K
    refine Ok.iald (pc' := 43) (z := h.1 45 k2) dX0_takePicked_42 rfl (shC_45 _) (by decide) e2 q2 rfl ?_
    obtain ⟨k3, e3, q3, K⟩ := K
    refine Ok.iald (pc' := 44) (z := h.1 41 k3) dX0_takePicked_43 rfl (shC_41 _) (by decide) e3 q3 rfl ?_
    refine Ok.iast (pc' := 45) dX0_takePicked_44 rfl (shC_44 _) (by decide) e2 q2 ?_
    obtain ⟨q4, K⟩ := K
    refine Ok.iinc (pc' := 48) (ls' := [some (pR 40), none, none, some (pI (v3 + 1))]) dX0_takePicked_45 rfl rfl (by decide) rfl rfl q4 ?_
    refine Ok.goto (tgt := 20) dX0_takePicked_48 rfl ?_
    exact K
theorem sX0_bestNext_0 {r budget : Int} {h : Hp} {Post : Int → Hp → Prop}
    (K : Cl shC mX0_lookAt [pR 40, pI r] h (fun _ h1 => Ok shC 0 0 mX0_bestNext 11 [some (pR 40), none, some (pI budget), some (pI (-4)), some (pI 0)] [] h1 Post)) :
    Cl shC mX0_bestNext [pR 40, pI r, pI budget] h Post := by
  show Ok shC 0 0 mX0_bestNext 0 [some (pR 40), some (pI r), some (pI budget), none, none] [] h Post
  refine Ok.aload_n (pc' := 1) rfl dX0_bestNext_0 rfl ?_
  refine Ok.iload_n (pc' := 2) rfl dX0_bestNext_1 rfl ?_
  refine Ok.callV (pc' := 5) (av := [pI r]) (rest := []) dX0_bestNext_2 rfl (by decide) cvX0_bestNext_49 (shC_40 _) rfl rfl rfl (leb rfl) (leb rfl) K (fun r_ h1 K => ?_)
  show Ok shC 0 0 mX0_bestNext 5 [some (pR 40), some (pI r), some (pI budget), none, none] [] h1 Post
  refine Ok.bipush (pc' := 7) ⟨by decide, by decide⟩ dX0_bestNext_5 rfl ?_
  refine Ok.istore_n (pc' := 8) (ls' := [some (pR 40), some (pI r), some (pI budget), some (pI (-4)), none]) dX0_bestNext_7 rfl (by decide) rfl rfl ?_
  refine Ok.iconst (pc' := 9) in_0 dX0_bestNext_8 rfl ?_
  refine Ok.istore (pc' := 11) (ls' := [some (pR 40), some (pI r), some (pI budget), some (pI (-4)), some (pI 0)]) dX0_bestNext_9 rfl (by decide) rfl rfl ?_
  exact Ok.fl (ls' := [some (pR 40), none, some (pI budget), some (pI (-4)), some (pI 0)]) K ⟨rfl, rfl, rfl, rfl, trivial⟩
theorem sX0_bestNext_11 {budget v3 v4 : Int} {h : Hp} {Post : Int → Hp → Prop}
    (K : ((h.2.1 40 8 ≤ v4) → ((¬ v3 = (-4)) → ∃ k3 : Nat, v3 = (k3 : Int) ∧ k3 < 12 ∧ (Post (h.1 41 k3) h)) ∧ ((v3 = (-4)) → Post (-4) h)) ∧ ((¬ h.2.1 40 8 ≤ v4) → ∃ k2 : Nat, v4 = (k2 : Int) ∧ k2 < 12 ∧ (((budget < h.1 43 k2) → inR ((v4 + 1)) ∧ (Ok shC 0 0 mX0_bestNext 11 [some (pR 40), none, some (pI budget), some (pI v3), some (pI (v4 + 1))] [] h Post)) ∧ ((¬ budget < h.1 43 k2) → ((v3 = (-4)) → inR ((v4 + 1)) ∧ (Ok shC 0 0 mX0_bestNext 11 [some (pR 40), none, some (pI budget), some (pI v4), some (pI (v4 + 1))] [] h Post)) ∧ ((¬ v3 = (-4)) → Cl shC mX0_isBetter [pR 40, pI v4, pI v3] h (fun r1 h1 => ((r1 = 0) → inR ((v4 + 1)) ∧ (Ok shC 0 0 mX0_bestNext 11 [some (pR 40), none, some (pI budget), some (pI v3), some (pI (v4 + 1))] [] h1 Post)) ∧ ((¬ r1 = 0) → inR ((v4 + 1)) ∧ (Ok shC 0 0 mX0_bestNext 11 [some (pR 40), none, some (pI budget), some (pI v4), some (pI (v4 + 1))] [] h1 Post)))))))) :
    Ok shC 0 0 mX0_bestNext 11 [some (pR 40), none, some (pI budget), some (pI v3), some (pI v4)] [] h Post := by
  show Ok shC 0 0 mX0_bestNext 11 [some (pR 40), none, some (pI budget), some (pI v3), some (pI v4)] [] h Post
  refine Ok.iload (pc' := 13) rfl dX0_bestNext_11 rfl ?_
  refine Ok.aload_n (pc' := 14) rfl dX0_bestNext_13 rfl ?_
  refine Ok.getI (pc' := 17) (z := h.2.1 40 8) (k := 8) dX0_bestNext_14 rfl (shC_40 _) rfl inX0 (by decide) rfl rfl wd_350 rfl ?_
  refine Ok.icmp_ge (tgt := 56) dX0_bestNext_17 rfl rfl (fun c1 => ?_) (fun c1 => ?_)
  · replace K := K.1 c1
    refine Ok.iload_n (pc' := 57) rfl dX0_bestNext_56 rfl ?_
    refine Ok.bipush (pc' := 59) ⟨by decide, by decide⟩ dX0_bestNext_57 rfl ?_
    refine Ok.icmp_ne (tgt := 67) dX0_bestNext_59 rfl rfl (fun c2 => ?_) (fun c2 => ?_)
    · replace K := K.1 c2
      refine Ok.aload_n (pc' := 68) rfl dX0_bestNext_67 rfl ?_
      refine Ok.getR (pc' := 71) (k := 3) dX0_bestNext_68 rfl (shC_40 _) rfl inX0 (by decide) rfl wd_345 rfl ?_
      refine Ok.iload_n (pc' := 72) rfl dX0_bestNext_71 rfl ?_
      obtain ⟨k3, e3, q3, K⟩ := K
      refine Ok.iald (pc' := 73) (z := h.1 41 k3) dX0_bestNext_72 rfl (shC_41 _) (by decide) e3 q3 rfl ?_
      exact Ok.iret dX0_bestNext_73 rfl (by decide) K
    · replace K := K.2 c2
      refine Ok.bipush (pc' := 64) ⟨by decide, by decide⟩ dX0_bestNext_62 rfl ?_
      refine Ok.goto (tgt := 73) dX0_bestNext_64 rfl ?_
      exact Ok.iret dX0_bestNext_73 rfl (by decide) K
  · replace K := K.2 c1
    refine Ok.aload_n (pc' := 21) rfl dX0_bestNext_20 rfl ?_
    refine Ok.getR (pc' := 24) (k := 5) dX0_bestNext_21 rfl (shC_40 _) rfl inX0 (by decide) rfl wd_347 rfl ?_
    refine Ok.iload (pc' := 26) rfl dX0_bestNext_24 rfl ?_
    obtain ⟨k2, e2, q2, K⟩ := K
    refine Ok.iald (pc' := 27) (z := h.1 43 k2) dX0_bestNext_26 rfl (shC_43 _) (by decide) e2 q2 rfl ?_
    refine Ok.iload_n (pc' := 28) rfl dX0_bestNext_27 rfl ?_
    refine Ok.icmp_gt (tgt := 50) dX0_bestNext_28 rfl rfl (fun c3 => ?_) (fun c3 => ?_)
    · replace K := K.1 c3
      obtain ⟨q4, K⟩ := K
      refine Ok.iinc (pc' := 53) (ls' := [some (pR 40), none, some (pI budget), some (pI v3), some (pI (v4 + 1))]) dX0_bestNext_50 rfl rfl (by decide) rfl rfl q4 ?_
      refine Ok.goto (tgt := 11) dX0_bestNext_53 rfl ?_
      exact K
    · replace K := K.2 c3
      refine Ok.iload_n (pc' := 32) rfl dX0_bestNext_31 rfl ?_
      refine Ok.bipush (pc' := 34) ⟨by decide, by decide⟩ dX0_bestNext_32 rfl ?_
      refine Ok.icmp_eq (tgt := 47) dX0_bestNext_34 rfl rfl (fun c4 => ?_) (fun c4 => ?_)
      · replace K := K.1 c4
        refine Ok.iload (pc' := 49) rfl dX0_bestNext_47 rfl ?_
        refine Ok.istore_n (pc' := 50) (ls' := [some (pR 40), none, some (pI budget), some (pI v4), some (pI v4)]) dX0_bestNext_49 rfl (by decide) rfl rfl ?_
        obtain ⟨q5, K⟩ := K
        refine Ok.iinc (pc' := 53) (ls' := [some (pR 40), none, some (pI budget), some (pI v4), some (pI (v4 + 1))]) dX0_bestNext_50 rfl rfl (by decide) rfl rfl q5 ?_
        refine Ok.goto (tgt := 11) dX0_bestNext_53 rfl ?_
        exact K
      · replace K := K.2 c4
        refine Ok.aload_n (pc' := 38) rfl dX0_bestNext_37 rfl ?_
        refine Ok.iload (pc' := 40) rfl dX0_bestNext_38 rfl ?_
        refine Ok.iload_n (pc' := 41) rfl dX0_bestNext_40 rfl ?_
        refine Ok.callV (pc' := 44) (av := [pI v4, pI v3]) (rest := []) dX0_bestNext_41 rfl (by decide) cvX0_bestNext_64 (shC_40 _) rfl rfl rfl (leb rfl) (leb rfl) K (fun r1 h1 K => ?_)
        show Ok shC 0 0 mX0_bestNext 44 [some (pR 40), none, some (pI budget), some (pI v3), some (pI v4)] [pI r1] h1 Post
        refine Ok.if_eq (tgt := 50) dX0_bestNext_44 rfl rfl (fun c5 => ?_) (fun c5 => ?_)
        · replace K := K.1 c5
          obtain ⟨q6, K⟩ := K
          refine Ok.iinc (pc' := 53) (ls' := [some (pR 40), none, some (pI budget), some (pI v3), some (pI (v4 + 1))]) dX0_bestNext_50 rfl rfl (by decide) rfl rfl q6 ?_
          refine Ok.goto (tgt := 11) dX0_bestNext_53 rfl ?_
          exact K
        · replace K := K.2 c5
          refine Ok.iload (pc' := 49) rfl dX0_bestNext_47 rfl ?_
          refine Ok.istore_n (pc' := 50) (ls' := [some (pR 40), none, some (pI budget), some (pI v4), some (pI v4)]) dX0_bestNext_49 rfl (by decide) rfl rfl ?_
          obtain ⟨q6, K⟩ := K
          refine Ok.iinc (pc' := 53) (ls' := [some (pR 40), none, some (pI budget), some (pI v4), some (pI (v4 + 1))]) dX0_bestNext_50 rfl rfl (by decide) rfl rfl q6 ?_
          refine Ok.goto (tgt := 11) dX0_bestNext_53 rfl ?_
          exact K
theorem sX0_isBetter_0 {one other : Int} {h : Hp} {Post : Int → Hp → Prop}
    (K : ∃ k1 : Nat, one = (k1 : Int) ∧ k1 < 12 ∧ (∃ k2 : Nat, other = (k2 : Int) ∧ k2 < 12 ∧ (inL ((h.1 42 k1 * h.1 43 k2)) ∧ (inL ((h.1 42 k2 * h.1 43 k1)) ∧ ((((b_lcmp (h.1 42 k1 * h.1 43 k2) (h.1 42 k2 * h.1 43 k1)) ≤ 0) → Post 0 h) ∧ ((¬ (b_lcmp (h.1 42 k1 * h.1 43 k2) (h.1 42 k2 * h.1 43 k1)) ≤ 0) → Post 1 h)))))) :
    Cl shC mX0_isBetter [pR 40, pI one, pI other] h Post := by
  show Ok shC 0 0 mX0_isBetter 0 [some (pR 40), some (pI one), some (pI other)] [] h Post
  refine Ok.aload_n (pc' := 1) rfl dX0_isBetter_0 rfl ?_
  refine Ok.getR (pc' := 4) (k := 4) dX0_isBetter_1 rfl (shC_40 _) rfl inX0 (by decide) rfl wd_346 rfl ?_
  refine Ok.iload_n (pc' := 5) rfl dX0_isBetter_4 rfl ?_
  obtain ⟨k1, e1, q1, K⟩ := K
  refine Ok.iald (pc' := 6) (z := h.1 42 k1) dX0_isBetter_5 rfl (shC_42 _) (by decide) e1 q1 rfl ?_
  refine Ok.i2l (pc' := 7) dX0_isBetter_6 rfl ?_
  refine Ok.aload_n (pc' := 8) rfl dX0_isBetter_7 rfl ?_
  refine Ok.getR (pc' := 11) (k := 5) dX0_isBetter_8 rfl (shC_40 _) rfl inX0 (by decide) rfl wd_347 rfl ?_
  refine Ok.iload_n (pc' := 12) rfl dX0_isBetter_11 rfl ?_
  obtain ⟨k2, e2, q2, K⟩ := K
  refine Ok.iald (pc' := 13) (z := h.1 43 k2) dX0_isBetter_12 rfl (shC_43 _) (by decide) e2 q2 rfl ?_
  refine Ok.i2l (pc' := 14) dX0_isBetter_13 rfl ?_
  obtain ⟨q3, K⟩ := K
  refine Ok.lmul (pc' := 15) dX0_isBetter_14 rfl q3 ?_
  refine Ok.aload_n (pc' := 16) rfl dX0_isBetter_15 rfl ?_
  refine Ok.getR (pc' := 19) (k := 4) dX0_isBetter_16 rfl (shC_40 _) rfl inX0 (by decide) rfl wd_346 rfl ?_
  refine Ok.iload_n (pc' := 20) rfl dX0_isBetter_19 rfl ?_
  refine Ok.iald (pc' := 21) (z := h.1 42 k2) dX0_isBetter_20 rfl (shC_42 _) (by decide) e2 q2 rfl ?_
  refine Ok.i2l (pc' := 22) dX0_isBetter_21 rfl ?_
  refine Ok.aload_n (pc' := 23) rfl dX0_isBetter_22 rfl ?_
  refine Ok.getR (pc' := 26) (k := 5) dX0_isBetter_23 rfl (shC_40 _) rfl inX0 (by decide) rfl wd_347 rfl ?_
  refine Ok.iload_n (pc' := 27) rfl dX0_isBetter_26 rfl ?_
  refine Ok.iald (pc' := 28) (z := h.1 43 k1) dX0_isBetter_27 rfl (shC_43 _) (by decide) e1 q1 rfl ?_
  refine Ok.i2l (pc' := 29) dX0_isBetter_28 rfl ?_
  obtain ⟨q4, K⟩ := K
  refine Ok.lmul (pc' := 30) dX0_isBetter_29 rfl q4 ?_
  refine Ok.lcmp (pc' := 31) dX0_isBetter_30 rfl ?_
  refine Ok.if_le (tgt := 38) dX0_isBetter_31 rfl rfl (fun c5 => ?_) (fun c5 => ?_)
  · replace K := K.1 c5
    refine Ok.iconst (pc' := 39) in_0 dX0_isBetter_38 rfl ?_
    exact Ok.zret dX0_isBetter_39 rfl (by decide) (Or.inl rfl) K
  · replace K := K.2 c5
    refine Ok.iconst (pc' := 35) in_1 dX0_isBetter_34 rfl ?_
    refine Ok.goto (tgt := 39) dX0_isBetter_35 rfl ?_
    exact Ok.zret dX0_isBetter_39 rfl (by decide) (Or.inr rfl) K
theorem sX0_lookAt_0 {r : Int} {h : Hp} {Post : Int → Hp → Prop}
    (K : Ok shC 0 0 mX0_lookAt 7 [some (pR 40), some (pI r), some (pI 0), none] [] (hI h 40 8 0) Post) :
    Cl shC mX0_lookAt [pR 40, pI r] h Post := by
  show Ok shC 0 0 mX0_lookAt 0 [some (pR 40), some (pI r), none, none] [] h Post
  refine Ok.aload_n (pc' := 1) rfl dX0_lookAt_0 rfl ?_
  refine Ok.iconst (pc' := 2) in_0 dX0_lookAt_1 rfl ?_
  refine Ok.putI (pc' := 5) (k := 8) dX0_lookAt_2 rfl (shC_40 _) rfl inX0 tyX0 tyX0_ok nmX0 (by decide) rfl wd_350 rfl rfl (Or.inl rfl) ?_
  refine Ok.iconst (pc' := 6) in_0 dX0_lookAt_5 rfl ?_
  refine Ok.istore_n (pc' := 7) (ls' := [some (pR 40), some (pI r), some (pI 0), none]) dX0_lookAt_6 rfl (by decide) rfl rfl ?_
  exact K
theorem sX0_lookAt_7 {r v2 : Int} {h : Hp} {Post : Int → Hp → Prop}
    (K : ((h.2.1 2 6 ≤ v2) → Post 0 h) ∧ ((¬ h.2.1 2 6 ≤ v2) → ((12 ≤ h.2.1 40 8) → Post 0 h) ∧ ((¬ 12 ≤ h.2.1 40 8) → Cl shC mX1_kindOf [pR 1, pI v2] h (fun r1 h1 => ((¬ r1 = 6) → inR ((v2 + 1)) ∧ (Ok shC 0 0 mX0_lookAt 7 [some (pR 40), some (pI r), some (pI (v2 + 1)), none] [] h1 Post)) ∧ ((r1 = 6) → Cl shC mX1_numberOf [pR 1, pI v2] h1 (fun r2 h2 => ((r2 = r) → inR ((v2 + 1)) ∧ (Ok shC 0 0 mX0_lookAt 7 [some (pR 40), some (pI r), some (pI (v2 + 1)), none] [] h2 Post)) ∧ ((¬ r2 = r) → Cl shC mX1_numberOf [pR 1, pI v2] h2 (fun r3 h3 => Cl shC mX1_isMissing [pR 1, pI r3] h3 (fun r4 h4 => ((¬ r4 = 0) → inR ((v2 + 1)) ∧ (Ok shC 0 0 mX0_lookAt 7 [some (pR 40), some (pI r), some (pI (v2 + 1)), none] [] h4 Post)) ∧ ((r4 = 0) → Cl shC mX1_routineOf [pR 1, pI v2] h4 (fun r5 h5 => ((¬ r5 = r) → inR ((v2 + 1)) ∧ (Ok shC 0 0 mX0_lookAt 7 [some (pR 40), some (pI r), some (pI (v2 + 1)), none] [] h5 Post)) ∧ ((r5 = r) → ∃ k7 : Nat, h5.2.1 40 8 = (k7 : Int) ∧ k7 < 12 ∧ (Cl shC mX2_gainOf [pR 19, pI v2] (hA h5 41 k7 v2) (fun r6 h6 => Cl shC mX3_weightOf [pR 28, pI v2] (hA h6 42 k7 r6) (fun r7 h7 => ∃ k8 : Nat, h6.2.1 40 8 = (k8 : Int) ∧ k8 < 12 ∧ (inR ((h7.2.1 40 8 + 1)) ∧ (inR ((v2 + 1)) ∧ (Ok shC 0 0 mX0_lookAt 7 [some (pR 40), some (pI r), some (pI (v2 + 1)), none] [] (hI (hA h7 43 k8 r7) 40 8 (h7.2.1 40 8 + 1)) Post)))))))))))))))))) :
    Ok shC 0 0 mX0_lookAt 7 [some (pR 40), some (pI r), some (pI v2), none] [] h Post := by
  show Ok shC 0 0 mX0_lookAt 7 [some (pR 40), some (pI r), some (pI v2), none] [] h Post
  refine Ok.iload_n (pc' := 8) rfl dX0_lookAt_7 rfl ?_
  refine Ok.aload_n (pc' := 9) rfl dX0_lookAt_8 rfl ?_
  refine Ok.getR (pc' := 12) (k := 0) dX0_lookAt_9 rfl (shC_40 _) rfl inX0 (by decide) rfl wd_342 rfl ?_
  refine Ok.getRN (pc' := 15) (k := 0) dX0_lookAt_12 rfl (shC_1 _) rfl inX1 (by decide) rfl wd_191 rfl ?_
  refine Ok.getIN (pc' := 18) (z := h.2.1 2 6) (k := 6) dX0_lookAt_15 rfl (shC_2 _) rfl inX5 (by decide) rfl rfl wd_134 rfl ?_
  refine Ok.icmp_ge (tgt := 155) dX0_lookAt_18 rfl rfl (fun c1 => ?_) (fun c1 => ?_)
  · replace K := K.1 c1
    exact Ok.vret dX0_lookAt_155 rfl (by decide) K
  · replace K := K.2 c1
    refine Ok.aload_n (pc' := 22) rfl dX0_lookAt_21 rfl ?_
    refine Ok.getI (pc' := 25) (z := h.2.1 40 8) (k := 8) dX0_lookAt_22 rfl (shC_40 _) rfl inX0 (by decide) rfl rfl wd_350 rfl ?_
    refine Ok.bipush (pc' := 27) ⟨by decide, by decide⟩ dX0_lookAt_25 rfl ?_
    refine Ok.icmp_ge (tgt := 155) dX0_lookAt_27 rfl rfl (fun c2 => ?_) (fun c2 => ?_)
    · replace K := K.1 c2
      exact Ok.vret dX0_lookAt_155 rfl (by decide) K
    · replace K := K.2 c2
      refine Ok.aload_n (pc' := 31) rfl dX0_lookAt_30 rfl ?_
      refine Ok.getR (pc' := 34) (k := 0) dX0_lookAt_31 rfl (shC_40 _) rfl inX0 (by decide) rfl wd_342 rfl ?_
      refine Ok.iload_n (pc' := 35) rfl dX0_lookAt_34 rfl ?_
      refine Ok.callV (pc' := 38) (av := [pI v2]) (rest := []) dX0_lookAt_35 rfl (by decide) cvX0_lookAt_79 (shC_1 _) rfl rfl rfl (leb rfl) (leb rfl) K (fun r1 h1 K => ?_)
      show Ok shC 0 0 mX0_lookAt 38 [some (pR 40), some (pI r), some (pI v2), none] [pI r1] h1 Post
      refine Ok.bipush (pc' := 40) ⟨by decide, by decide⟩ dX0_lookAt_38 rfl ?_
      refine Ok.icmp_ne (tgt := 59) dX0_lookAt_40 rfl rfl (fun c3 => ?_) (fun c3 => ?_)
      · replace K := K.1 c3
        refine Ok.iconst (pc' := 60) in_0 dX0_lookAt_59 rfl ?_
        refine Ok.istore_n (pc' := 61) (ls' := [some (pR 40), some (pI r), some (pI v2), some (pI 0)]) dX0_lookAt_60 rfl (by decide) rfl rfl ?_
        refine Ok.iload_n (pc' := 62) rfl dX0_lookAt_61 rfl ?_
        refine Ok.if_eq (tgt := 149) dX0_lookAt_62 rfl rfl (fun _ => ?_) (fun z => absurd (by decide) z)
        obtain ⟨q4, K⟩ := K
        refine Ok.iinc (pc' := 152) (ls' := [some (pR 40), some (pI r), some (pI (v2 + 1)), some (pI 0)]) dX0_lookAt_149 rfl rfl (by decide) rfl rfl q4 ?_
        refine Ok.goto (tgt := 7) dX0_lookAt_152 rfl ?_
        exact Ok.fl (ls' := [some (pR 40), some (pI r), some (pI (v2 + 1)), none]) K ⟨rfl, rfl, rfl, trivial⟩
      · replace K := K.2 c3
        refine Ok.aload_n (pc' := 44) rfl dX0_lookAt_43 rfl ?_
        refine Ok.getR (pc' := 47) (k := 0) dX0_lookAt_44 rfl (shC_40 _) rfl inX0 (by decide) rfl wd_342 rfl ?_
        refine Ok.iload_n (pc' := 48) rfl dX0_lookAt_47 rfl ?_
        refine Ok.callV (pc' := 51) (av := [pI v2]) (rest := []) dX0_lookAt_48 rfl (by decide) cvX0_lookAt_83 (shC_1 _) rfl rfl rfl (leb rfl) (leb rfl) K (fun r2 h2 K => ?_)
        show Ok shC 0 0 mX0_lookAt 51 [some (pR 40), some (pI r), some (pI v2), none] [pI r2] h2 Post
        refine Ok.iload_n (pc' := 52) rfl dX0_lookAt_51 rfl ?_
        refine Ok.icmp_eq (tgt := 59) dX0_lookAt_52 rfl rfl (fun c4 => ?_) (fun c4 => ?_)
        · replace K := K.1 c4
          refine Ok.iconst (pc' := 60) in_0 dX0_lookAt_59 rfl ?_
          refine Ok.istore_n (pc' := 61) (ls' := [some (pR 40), some (pI r), some (pI v2), some (pI 0)]) dX0_lookAt_60 rfl (by decide) rfl rfl ?_
          refine Ok.iload_n (pc' := 62) rfl dX0_lookAt_61 rfl ?_
          refine Ok.if_eq (tgt := 149) dX0_lookAt_62 rfl rfl (fun _ => ?_) (fun z => absurd (by decide) z)
          obtain ⟨q5, K⟩ := K
          refine Ok.iinc (pc' := 152) (ls' := [some (pR 40), some (pI r), some (pI (v2 + 1)), some (pI 0)]) dX0_lookAt_149 rfl rfl (by decide) rfl rfl q5 ?_
          refine Ok.goto (tgt := 7) dX0_lookAt_152 rfl ?_
          exact Ok.fl (ls' := [some (pR 40), some (pI r), some (pI (v2 + 1)), none]) K ⟨rfl, rfl, rfl, trivial⟩
        · replace K := K.2 c4
          refine Ok.iconst (pc' := 56) in_1 dX0_lookAt_55 rfl ?_
          refine Ok.goto (tgt := 60) dX0_lookAt_56 rfl ?_
          refine Ok.istore_n (pc' := 61) (ls' := [some (pR 40), some (pI r), some (pI v2), some (pI 1)]) dX0_lookAt_60 rfl (by decide) rfl rfl ?_
          refine Ok.iload_n (pc' := 62) rfl dX0_lookAt_61 rfl ?_
          refine Ok.if_eq (tgt := 149) dX0_lookAt_62 rfl rfl (fun z => absurd z (by decide)) (fun _ => ?_)
          refine Ok.aload_n (pc' := 66) rfl dX0_lookAt_65 rfl ?_
          refine Ok.getR (pc' := 69) (k := 0) dX0_lookAt_66 rfl (shC_40 _) rfl inX0 (by decide) rfl wd_342 rfl ?_
          refine Ok.aload_n (pc' := 70) rfl dX0_lookAt_69 rfl ?_
          refine Ok.getR (pc' := 73) (k := 0) dX0_lookAt_70 rfl (shC_40 _) rfl inX0 (by decide) rfl wd_342 rfl ?_
          refine Ok.iload_n (pc' := 74) rfl dX0_lookAt_73 rfl ?_
          refine Ok.callV (pc' := 77) (av := [pI v2]) (rest := [pR 1]) dX0_lookAt_74 rfl (by decide) cvX0_lookAt_83 (shC_1 _) rfl rfl rfl (leb rfl) (leb rfl) K (fun r3 h3 K => ?_)
          show Ok shC 0 0 mX0_lookAt 77 [some (pR 40), some (pI r), some (pI v2), some (pI 1)] [pI r3, pR 1] h3 Post
          refine Ok.callV (pc' := 80) (av := [pI r3]) (rest := []) dX0_lookAt_77 rfl (by decide) cvX0_lookAt_86 (shC_1 _) rfl rfl rfl (leb rfl) (leb rfl) K (fun r4 h4 K => ?_)
          show Ok shC 0 0 mX0_lookAt 80 [some (pR 40), some (pI r), some (pI v2), some (pI 1)] [pI r4] h4 Post
          refine Ok.if_ne (tgt := 149) dX0_lookAt_80 rfl rfl (fun c5 => ?_) (fun c5 => ?_)
          · replace K := K.1 c5
            obtain ⟨q6, K⟩ := K
            refine Ok.iinc (pc' := 152) (ls' := [some (pR 40), some (pI r), some (pI (v2 + 1)), some (pI 1)]) dX0_lookAt_149 rfl rfl (by decide) rfl rfl q6 ?_
            refine Ok.goto (tgt := 7) dX0_lookAt_152 rfl ?_
            exact Ok.fl (ls' := [some (pR 40), some (pI r), some (pI (v2 + 1)), none]) K ⟨rfl, rfl, rfl, trivial⟩
          · replace K := K.2 c5
            refine Ok.aload_n (pc' := 84) rfl dX0_lookAt_83 rfl ?_
            refine Ok.getR (pc' := 87) (k := 0) dX0_lookAt_84 rfl (shC_40 _) rfl inX0 (by decide) rfl wd_342 rfl ?_
            refine Ok.iload_n (pc' := 88) rfl dX0_lookAt_87 rfl ?_
            refine Ok.callV (pc' := 91) (av := [pI v2]) (rest := []) dX0_lookAt_88 rfl (by decide) cvX0_lookAt_90 (shC_1 _) rfl rfl rfl (leb rfl) (leb rfl) K (fun r5 h5 K => ?_)
            show Ok shC 0 0 mX0_lookAt 91 [some (pR 40), some (pI r), some (pI v2), some (pI 1)] [pI r5] h5 Post
            refine Ok.iload_n (pc' := 92) rfl dX0_lookAt_91 rfl ?_
            refine Ok.icmp_ne (tgt := 149) dX0_lookAt_92 rfl rfl (fun c6 => ?_) (fun c6 => ?_)
            · replace K := K.1 c6
              obtain ⟨q7, K⟩ := K
              refine Ok.iinc (pc' := 152) (ls' := [some (pR 40), some (pI r), some (pI (v2 + 1)), some (pI 1)]) dX0_lookAt_149 rfl rfl (by decide) rfl rfl q7 ?_
              refine Ok.goto (tgt := 7) dX0_lookAt_152 rfl ?_
              exact Ok.fl (ls' := [some (pR 40), some (pI r), some (pI (v2 + 1)), none]) K ⟨rfl, rfl, rfl, trivial⟩
            · replace K := K.2 c6
              refine Ok.aload_n (pc' := 96) rfl dX0_lookAt_95 rfl ?_
              refine Ok.getR (pc' := 99) (k := 3) dX0_lookAt_96 rfl (shC_40 _) rfl inX0 (by decide) rfl wd_345 rfl ?_
              refine Ok.aload_n (pc' := 100) rfl dX0_lookAt_99 rfl ?_
              refine Ok.getI (pc' := 103) (z := h5.2.1 40 8) (k := 8) dX0_lookAt_100 rfl (shC_40 _) rfl inX0 (by decide) rfl rfl wd_350 rfl ?_
              refine Ok.iload_n (pc' := 104) rfl dX0_lookAt_103 rfl ?_
              obtain ⟨k7, e7, q7, K⟩ := K
              refine Ok.iast (pc' := 105) dX0_lookAt_104 rfl (shC_41 _) (by decide) e7 q7 ?_
              refine Ok.aload_n (pc' := 106) rfl dX0_lookAt_105 rfl ?_
              refine Ok.getR (pc' := 109) (k := 4) dX0_lookAt_106 rfl (shC_40 _) rfl inX0 (by decide) rfl wd_346 rfl ?_
              refine Ok.aload_n (pc' := 110) rfl dX0_lookAt_109 rfl ?_
              refine Ok.getI (pc' := 113) (z := h5.2.1 40 8) (k := 8) dX0_lookAt_110 rfl (shC_40 _) rfl inX0 (by decide) rfl rfl wd_350 rfl ?_
              refine Ok.aload_n (pc' := 114) rfl dX0_lookAt_113 rfl ?_
              refine Ok.getR (pc' := 117) (k := 2) dX0_lookAt_114 rfl (shC_40 _) rfl inX0 (by decide) rfl wd_344 rfl ?_
              refine Ok.iload_n (pc' := 118) rfl dX0_lookAt_117 rfl ?_
              refine Ok.callV (pc' := 121) (av := [pI v2]) (rest := [pI (h5.2.1 40 8), pR 42]) dX0_lookAt_118 rfl (by decide) cvX0_lookAt_93 (shC_19 _) rfl rfl rfl (leb rfl) (leb rfl) K (fun r6 h6 K => ?_)
              show Ok shC 0 0 mX0_lookAt 121 [some (pR 40), some (pI r), some (pI v2), some (pI 1)] [pI r6, pI (h5.2.1 40 8), pR 42] h6 Post
              refine Ok.iast (pc' := 122) dX0_lookAt_121 rfl (shC_42 _) (by decide) e7 q7 ?_
              refine Ok.aload_n (pc' := 123) rfl dX0_lookAt_122 rfl ?_
              refine Ok.getR (pc' := 126) (k := 5) dX0_lookAt_123 rfl (shC_40 _) rfl inX0 (by decide) rfl wd_347 rfl ?_
              refine Ok.aload_n (pc' := 127) rfl dX0_lookAt_126 rfl ?_
              refine Ok.getI (pc' := 130) (z := h6.2.1 40 8) (k := 8) dX0_lookAt_127 rfl (shC_40 _) rfl inX0 (by decide) rfl rfl wd_350 rfl ?_
              refine Ok.aload_n (pc' := 131) rfl dX0_lookAt_130 rfl ?_
              refine Ok.getR (pc' := 134) (k := 1) dX0_lookAt_131 rfl (shC_40 _) rfl inX0 (by decide) rfl wd_343 rfl ?_
              refine Ok.iload_n (pc' := 135) rfl dX0_lookAt_134 rfl ?_
              refine Ok.callV (pc' := 138) (av := [pI v2]) (rest := [pI (h6.2.1 40 8), pR 43]) dX0_lookAt_135 rfl (by decide) cvX0_lookAt_98 (shC_28 _) rfl rfl rfl (leb rfl) (leb rfl) K (fun r7 h7 K => ?_)
              show Ok shC 0 0 mX0_lookAt 138 [some (pR 40), some (pI r), some (pI v2), some (pI 1)] [pI r7, pI (h6.2.1 40 8), pR 43] h7 Post
              obtain ⟨k8, e8, q8, K⟩ := K
              refine Ok.iast (pc' := 139) dX0_lookAt_138 rfl (shC_43 _) (by decide) e8 q8 ?_
              refine Ok.aload_n (pc' := 140) rfl dX0_lookAt_139 rfl ?_
              refine Ok.dup (pc' := 141) dX0_lookAt_140 rfl rfl ?_
              refine Ok.getI (pc' := 144) (z := h7.2.1 40 8) (k := 8) dX0_lookAt_141 rfl (shC_40 _) rfl inX0 (by decide) rfl rfl wd_350 rfl ?_
              refine Ok.iconst (pc' := 145) in_1 dX0_lookAt_144 rfl ?_
              obtain ⟨q9, K⟩ := K
              refine Ok.iadd (pc' := 146) dX0_lookAt_145 rfl q9 ?_
              refine Ok.putI (pc' := 149) (k := 8) dX0_lookAt_146 rfl (shC_40 _) rfl inX0 tyX0 tyX0_ok nmX0 (by decide) rfl wd_350 rfl rfl (Or.inl rfl) ?_
              obtain ⟨q10, K⟩ := K
              refine Ok.iinc (pc' := 152) (ls' := [some (pR 40), some (pI r), some (pI (v2 + 1)), some (pI 1)]) dX0_lookAt_149 rfl rfl (by decide) rfl rfl q10 ?_
              refine Ok.goto (tgt := 7) dX0_lookAt_152 rfl ?_
              exact Ok.fl (ls' := [some (pR 40), some (pI r), some (pI (v2 + 1)), none]) K ⟨rfl, rfl, rfl, trivial⟩
theorem sX8_number_0 {v : Int} {h : Hp} {Post : Int → Hp → Prop}
    (K : Cl shC mX8_tellStep [pR 0, pI 0, pI v, pI 0, pI (-4), pI (-4), pI (-4)] h (fun r1 h1 => Post r1 h1)) :
    Cl shC mX8_number [pR 0, pI v] h Post := by
  show Ok shC 0 0 mX8_number 0 [some (pR 0), some (pI v)] [] h Post
  refine Ok.aload_n (pc' := 1) rfl dX8_number_0 rfl ?_
  refine Ok.iconst (pc' := 2) in_0 dX8_number_1 rfl ?_
  refine Ok.iload_n (pc' := 3) rfl dX8_number_2 rfl ?_
  refine Ok.iconst (pc' := 4) in_0 dX8_number_3 rfl ?_
  refine Ok.bipush (pc' := 6) ⟨by decide, by decide⟩ dX8_number_4 rfl ?_
  refine Ok.bipush (pc' := 8) ⟨by decide, by decide⟩ dX8_number_6 rfl ?_
  refine Ok.bipush (pc' := 10) ⟨by decide, by decide⟩ dX8_number_8 rfl ?_
  refine Ok.callV (pc' := 13) (av := [pI 0, pI v, pI 0, pI (-4), pI (-4), pI (-4)]) (rest := []) dX8_number_10 rfl (by decide) cvX8_number_55 (shC_0 _) rfl rfl rfl (leb rfl) (leb rfl) K (fun r1 h1 K => ?_)
  show Ok shC 0 0 mX8_number 13 [some (pR 0), some (pI v)] [pI r1] h1 Post
  exact Ok.iret dX8_number_13 rfl (by decide) K
theorem sX8_name_0 {k0 : Int} {h : Hp} {Post : Int → Hp → Prop}
    (K : Cl shC mX8_isName [pI k0] h (fun r1 h1 => ((r1 = 0) → Post (-1) h1) ∧ ((¬ r1 = 0) → Cl shC mX8_tellStep [pR 0, pI 1, pI k0, pI 0, pI (-4), pI (-4), pI (-4)] h1 (fun r2 h2 => Post r2 h2)))) :
    Cl shC mX8_name [pR 0, pI k0] h Post := by
  show Ok shC 0 0 mX8_name 0 [some (pR 0), some (pI k0)] [] h Post
  refine Ok.iload_n (pc' := 1) rfl dX8_name_0 rfl ?_
  refine Ok.callS (pc' := 4) (av := [pI k0]) (rest := []) dX8_name_1 rfl (by decide) cvX8_name_59 rfl rfl (leb rfl) (leb rfl) K (fun r1 h1 K => ?_)
  show Ok shC 0 0 mX8_name 4 [some (pR 0), some (pI k0)] [pI r1] h1 Post
  refine Ok.if_eq (tgt := 23) dX8_name_4 rfl rfl (fun c1 => ?_) (fun c1 => ?_)
  · replace K := K.1 c1
    refine Ok.iconst (pc' := 24) in_m1 dX8_name_23 rfl ?_
    exact Ok.iret dX8_name_24 rfl (by decide) K
  · replace K := K.2 c1
    refine Ok.aload_n (pc' := 8) rfl dX8_name_7 rfl ?_
    refine Ok.iconst (pc' := 9) in_1 dX8_name_8 rfl ?_
    refine Ok.iload_n (pc' := 10) rfl dX8_name_9 rfl ?_
    refine Ok.iconst (pc' := 11) in_0 dX8_name_10 rfl ?_
    refine Ok.bipush (pc' := 13) ⟨by decide, by decide⟩ dX8_name_11 rfl ?_
    refine Ok.bipush (pc' := 15) ⟨by decide, by decide⟩ dX8_name_13 rfl ?_
    refine Ok.bipush (pc' := 17) ⟨by decide, by decide⟩ dX8_name_15 rfl ?_
    refine Ok.callV (pc' := 20) (av := [pI 1, pI k0, pI 0, pI (-4), pI (-4), pI (-4)]) (rest := []) dX8_name_17 rfl (by decide) cvX8_name_55 (shC_0 _) rfl rfl rfl (leb rfl) (leb rfl) K (fun r2 h2 K => ?_)
    show Ok shC 0 0 mX8_name 20 [some (pR 0), some (pI k0)] [pI r2] h2 Post
    refine Ok.goto (tgt := 24) dX8_name_20 rfl ?_
    exact Ok.iret dX8_name_24 rfl (by decide) K
theorem sX8_act_0 {op x y : Int} {h : Hp} {Post : Int → Hp → Prop}
    (K : ((op < 0) → Post (-1) h) ∧ ((¬ op < 0) → ((5 < op) → Post (-1) h) ∧ ((¬ 5 < op) → Cl shC mX8_tellStep [pR 0, pI 2, pI op, pI 2, pI x, pI y, pI (-4)] h (fun r1 h1 => Post r1 h1)))) :
    Cl shC mX8_act [pR 0, pI op, pI x, pI y] h Post := by
  show Ok shC 0 0 mX8_act 0 [some (pR 0), some (pI op), some (pI x), some (pI y)] [] h Post
  refine Ok.iload_n (pc' := 1) rfl dX8_act_0 rfl ?_
  refine Ok.if_lt (tgt := 23) dX8_act_1 rfl rfl (fun c1 => ?_) (fun c1 => ?_)
  · replace K := K.1 c1
    refine Ok.iconst (pc' := 24) in_m1 dX8_act_23 rfl ?_
    exact Ok.iret dX8_act_24 rfl (by decide) K
  · replace K := K.2 c1
    refine Ok.iload_n (pc' := 5) rfl dX8_act_4 rfl ?_
    refine Ok.iconst (pc' := 6) in_5 dX8_act_5 rfl ?_
    refine Ok.icmp_gt (tgt := 23) dX8_act_6 rfl rfl (fun c2 => ?_) (fun c2 => ?_)
    · replace K := K.1 c2
      refine Ok.iconst (pc' := 24) in_m1 dX8_act_23 rfl ?_
      exact Ok.iret dX8_act_24 rfl (by decide) K
    · replace K := K.2 c2
      refine Ok.aload_n (pc' := 10) rfl dX8_act_9 rfl ?_
      refine Ok.iconst (pc' := 11) in_2 dX8_act_10 rfl ?_
      refine Ok.iload_n (pc' := 12) rfl dX8_act_11 rfl ?_
      refine Ok.iconst (pc' := 13) in_2 dX8_act_12 rfl ?_
      refine Ok.iload_n (pc' := 14) rfl dX8_act_13 rfl ?_
      refine Ok.iload_n (pc' := 15) rfl dX8_act_14 rfl ?_
      refine Ok.bipush (pc' := 17) ⟨by decide, by decide⟩ dX8_act_15 rfl ?_
      refine Ok.callV (pc' := 20) (av := [pI 2, pI op, pI 2, pI x, pI y, pI (-4)]) (rest := []) dX8_act_17 rfl (by decide) cvX8_act_55 (shC_0 _) rfl rfl rfl (leb rfl) (leb rfl) K (fun r1 h1 K => ?_)
      show Ok shC 0 0 mX8_act 20 [some (pR 0), some (pI op), some (pI x), some (pI y)] [pI r1] h1 Post
      refine Ok.goto (tgt := 24) dX8_act_20 rfl ?_
      exact Ok.iret dX8_act_24 rfl (by decide) K
theorem sX8_join_0 {kind t x y : Int} {h : Hp} {Post : Int → Hp → Prop}
    (K : ((kind = 3) → Cl shC mX8_tellStep [pR 0, pI kind, pI 0, pI 3, pI t, pI x, pI y] h (fun r1 h1 => Post r1 h1)) ∧ ((kind = 5 ∨ kind = 8 ∨ kind = 10) → Cl shC mX8_tellStep [pR 0, pI kind, pI 0, pI 2, pI x, pI y, pI (-4)] h (fun r2 h2 => Post r2 h2)) ∧ ((kind = 7 ∨ kind = 9) → Cl shC mX8_tellStep [pR 0, pI kind, pI 0, pI 1, pI x, pI (-4), pI (-4)] h (fun r3 h3 => Post r3 h3)) ∧ ((kind < 3 ∨ 10 < kind ∨ kind = 4 ∨ kind = 6) → Post (-1) h)) :
    Cl shC mX8_join [pR 0, pI kind, pI t, pI x, pI y] h Post := by
  show Ok shC 0 0 mX8_join 0 [some (pR 0), some (pI kind), some (pI t), some (pI x), some (pI y)] [] h Post
  refine Ok.iload_n (pc' := 1) rfl dX8_join_0 rfl ?_
  obtain ⟨Kc1_0, Kc1_1, Kc1_2, Kc1_3⟩ := K
  refine Ok.tsw dX8_join_1 rfl ⟨by decide, by decide⟩ (fun tgt ht => ?_)
  have hx : (kind = 3) ∨ (kind = 5 ∨ kind = 8 ∨ kind = 10) ∨ (kind = 7 ∨ kind = 9) ∨ (kind < 3 ∨ 10 < kind ∨ kind = 4 ∨ kind = 6) := by omega
  rcases hx with c1 | c1 | c1 | c1
  · obtain rfl : 48 = tgt := by rw [c1] at ht; exact Int.ofNat.inj ht
    have K := Kc1_0 c1
    refine Ok.aload_n (pc' := 49) rfl dX8_join_48 rfl ?_
    refine Ok.iload_n (pc' := 50) rfl dX8_join_49 rfl ?_
    refine Ok.iconst (pc' := 51) in_0 dX8_join_50 rfl ?_
    refine Ok.iconst (pc' := 52) in_3 dX8_join_51 rfl ?_
    refine Ok.iload_n (pc' := 53) rfl dX8_join_52 rfl ?_
    refine Ok.iload_n (pc' := 54) rfl dX8_join_53 rfl ?_
    refine Ok.iload (pc' := 56) rfl dX8_join_54 rfl ?_
    refine Ok.callV (pc' := 59) (av := [pI kind, pI 0, pI 3, pI t, pI x, pI y]) (rest := []) dX8_join_56 rfl (by decide) cvX8_join_55 (shC_0 _) rfl rfl rfl (leb rfl) (leb rfl) K (fun r1 h1 K => ?_)
    show Ok shC 0 0 mX8_join 59 [some (pR 0), some (pI kind), some (pI t), some (pI x), some (pI y)] [pI r1] h1 Post
    exact Ok.iret dX8_join_59 rfl (by decide) K
  · obtain rfl : 60 = tgt := by rcases c1 with q | q | q <;> (rw [q] at ht; exact Int.ofNat.inj ht)
    have K := Kc1_1 c1
    refine Ok.aload_n (pc' := 61) rfl dX8_join_60 rfl ?_
    refine Ok.iload_n (pc' := 62) rfl dX8_join_61 rfl ?_
    refine Ok.iconst (pc' := 63) in_0 dX8_join_62 rfl ?_
    refine Ok.iconst (pc' := 64) in_2 dX8_join_63 rfl ?_
    refine Ok.iload_n (pc' := 65) rfl dX8_join_64 rfl ?_
    refine Ok.iload (pc' := 67) rfl dX8_join_65 rfl ?_
    refine Ok.bipush (pc' := 69) ⟨by decide, by decide⟩ dX8_join_67 rfl ?_
    refine Ok.callV (pc' := 72) (av := [pI kind, pI 0, pI 2, pI x, pI y, pI (-4)]) (rest := []) dX8_join_69 rfl (by decide) cvX8_join_55 (shC_0 _) rfl rfl rfl (leb rfl) (leb rfl) K (fun r2 h2 K => ?_)
    show Ok shC 0 0 mX8_join 72 [some (pR 0), some (pI kind), some (pI t), some (pI x), some (pI y)] [pI r2] h2 Post
    exact Ok.iret dX8_join_72 rfl (by decide) K
  · obtain rfl : 73 = tgt := by rcases c1 with q | q <;> (rw [q] at ht; exact Int.ofNat.inj ht)
    have K := Kc1_2 c1
    refine Ok.aload_n (pc' := 74) rfl dX8_join_73 rfl ?_
    refine Ok.iload_n (pc' := 75) rfl dX8_join_74 rfl ?_
    refine Ok.iconst (pc' := 76) in_0 dX8_join_75 rfl ?_
    refine Ok.iconst (pc' := 77) in_1 dX8_join_76 rfl ?_
    refine Ok.iload_n (pc' := 78) rfl dX8_join_77 rfl ?_
    refine Ok.bipush (pc' := 80) ⟨by decide, by decide⟩ dX8_join_78 rfl ?_
    refine Ok.bipush (pc' := 82) ⟨by decide, by decide⟩ dX8_join_80 rfl ?_
    refine Ok.callV (pc' := 85) (av := [pI kind, pI 0, pI 1, pI x, pI (-4), pI (-4)]) (rest := []) dX8_join_82 rfl (by decide) cvX8_join_55 (shC_0 _) rfl rfl rfl (leb rfl) (leb rfl) K (fun r3 h3 K => ?_)
    show Ok shC 0 0 mX8_join 85 [some (pR 0), some (pI kind), some (pI t), some (pI x), some (pI y)] [pI r3] h3 Post
    exact Ok.iret dX8_join_85 rfl (by decide) K
  · obtain rfl : 86 = tgt := by
      rcases c1 with q | q | q | q
      · rw [swT_out (Or.inl q)] at ht; exact Int.ofNat.inj ht
      · rw [swT_out (Or.inr q)] at ht; exact Int.ofNat.inj ht
      · rw [q] at ht; exact Int.ofNat.inj ht
      · rw [q] at ht; exact Int.ofNat.inj ht
    have K := Kc1_3 c1
    refine Ok.iconst (pc' := 87) in_m1 dX8_join_86 rfl ?_
    exact Ok.iret dX8_join_87 rfl (by decide) K
theorem sX8_set_0 {k0 x : Int} {h : Hp} {Post : Int → Hp → Prop}
    (K : Cl shC mX8_isName [pI k0] h (fun r1 h1 => ((r1 = 0) → Post (-1) h1) ∧ ((¬ r1 = 0) → Cl shC mX8_tellStep [pR 0, pI 4, pI k0, pI 1, pI x, pI (-4), pI (-4)] h1 (fun r2 h2 => Post r2 h2)))) :
    Cl shC mX8_set [pR 0, pI k0, pI x] h Post := by
  show Ok shC 0 0 mX8_set 0 [some (pR 0), some (pI k0), some (pI x)] [] h Post
  refine Ok.iload_n (pc' := 1) rfl dX8_set_0 rfl ?_
  refine Ok.callS (pc' := 4) (av := [pI k0]) (rest := []) dX8_set_1 rfl (by decide) cvX8_set_59 rfl rfl (leb rfl) (leb rfl) K (fun r1 h1 K => ?_)
  show Ok shC 0 0 mX8_set 4 [some (pR 0), some (pI k0), some (pI x)] [pI r1] h1 Post
  refine Ok.if_eq (tgt := 22) dX8_set_4 rfl rfl (fun c1 => ?_) (fun c1 => ?_)
  · replace K := K.1 c1
    refine Ok.iconst (pc' := 23) in_m1 dX8_set_22 rfl ?_
    exact Ok.iret dX8_set_23 rfl (by decide) K
  · replace K := K.2 c1
    refine Ok.aload_n (pc' := 8) rfl dX8_set_7 rfl ?_
    refine Ok.iconst (pc' := 9) in_4 dX8_set_8 rfl ?_
    refine Ok.iload_n (pc' := 10) rfl dX8_set_9 rfl ?_
    refine Ok.iconst (pc' := 11) in_1 dX8_set_10 rfl ?_
    refine Ok.iload_n (pc' := 12) rfl dX8_set_11 rfl ?_
    refine Ok.bipush (pc' := 14) ⟨by decide, by decide⟩ dX8_set_12 rfl ?_
    refine Ok.bipush (pc' := 16) ⟨by decide, by decide⟩ dX8_set_14 rfl ?_
    refine Ok.callV (pc' := 19) (av := [pI 4, pI k0, pI 1, pI x, pI (-4), pI (-4)]) (rest := []) dX8_set_16 rfl (by decide) cvX8_set_55 (shC_0 _) rfl rfl rfl (leb rfl) (leb rfl) K (fun r2 h2 K => ?_)
    show Ok shC 0 0 mX8_set 19 [some (pR 0), some (pI k0), some (pI x)] [pI r2] h2 Post
    refine Ok.goto (tgt := 23) dX8_set_19 rfl ?_
    exact Ok.iret dX8_set_23 rfl (by decide) K
theorem sX8_call_0 {r x y z : Int} {h : Hp} {Post : Int → Hp → Prop}
    (K : Cl shC mX1_isRoutine [pR 1, pI r] h (fun r1 h1 => ((r1 = 0) → Post (-1) h1) ∧ ((¬ r1 = 0) → Cl shC mX1_paramsOf [pR 1, pI r] h1 (fun r2 h2 => Cl shC mX8_tellStep [pR 0, pI 6, pI r, pI r2, pI x, pI y, pI z] h2 (fun r3 h3 => Post r3 h3))))) :
    Cl shC mX8_call [pR 0, pI r, pI x, pI y, pI z] h Post := by
  show Ok shC 0 0 mX8_call 0 [some (pR 0), some (pI r), some (pI x), some (pI y), some (pI z)] [] h Post
  refine Ok.aload_n (pc' := 1) rfl dX8_call_0 rfl ?_
  refine Ok.getR (pc' := 4) (k := 0) dX8_call_1 rfl (shC_0 _) rfl inX8 (by decide) rfl wd_382 rfl ?_
  refine Ok.iload_n (pc' := 5) rfl dX8_call_4 rfl ?_
  refine Ok.callV (pc' := 8) (av := [pI r]) (rest := []) dX8_call_5 rfl (by decide) cvX8_call_63 (shC_1 _) rfl rfl rfl (leb rfl) (leb rfl) K (fun r1 h1 K => ?_)
  show Ok shC 0 0 mX8_call 8 [some (pR 0), some (pI r), some (pI x), some (pI y), some (pI z)] [pI r1] h1 Post
  refine Ok.if_eq (tgt := 33) dX8_call_8 rfl rfl (fun c1 => ?_) (fun c1 => ?_)
  · replace K := K.1 c1
    refine Ok.iconst (pc' := 34) in_m1 dX8_call_33 rfl ?_
    exact Ok.iret dX8_call_34 rfl (by decide) K
  · replace K := K.2 c1
    refine Ok.aload_n (pc' := 12) rfl dX8_call_11 rfl ?_
    refine Ok.bipush (pc' := 14) ⟨by decide, by decide⟩ dX8_call_12 rfl ?_
    refine Ok.iload_n (pc' := 15) rfl dX8_call_14 rfl ?_
    refine Ok.aload_n (pc' := 16) rfl dX8_call_15 rfl ?_
    refine Ok.getR (pc' := 19) (k := 0) dX8_call_16 rfl (shC_0 _) rfl inX8 (by decide) rfl wd_382 rfl ?_
    refine Ok.iload_n (pc' := 20) rfl dX8_call_19 rfl ?_
    refine Ok.callV (pc' := 23) (av := [pI r]) (rest := [pI r, pI 6, pR 0]) dX8_call_20 rfl (by decide) cvX8_call_66 (shC_1 _) rfl rfl rfl (leb rfl) (leb rfl) K (fun r2 h2 K => ?_)
    show Ok shC 0 0 mX8_call 23 [some (pR 0), some (pI r), some (pI x), some (pI y), some (pI z)] [pI r2, pI r, pI 6, pR 0] h2 Post
    refine Ok.iload_n (pc' := 24) rfl dX8_call_23 rfl ?_
    refine Ok.iload_n (pc' := 25) rfl dX8_call_24 rfl ?_
    refine Ok.iload (pc' := 27) rfl dX8_call_25 rfl ?_
    refine Ok.callV (pc' := 30) (av := [pI 6, pI r, pI r2, pI x, pI y, pI z]) (rest := []) dX8_call_27 rfl (by decide) cvX8_call_55 (shC_0 _) rfl rfl rfl (leb rfl) (leb rfl) K (fun r3 h3 K => ?_)
    show Ok shC 0 0 mX8_call 30 [some (pR 0), some (pI r), some (pI x), some (pI y), some (pI z)] [pI r3] h3 Post
    refine Ok.goto (tgt := 34) dX8_call_30 rfl ?_
    exact Ok.iret dX8_call_34 rfl (by decide) K
theorem sX8_routine_0 {params : Int} {h : Hp} {Post : Int → Hp → Prop}
    (K : ((params < 0) → Post (-1) h) ∧ ((¬ params < 0) → ((params ≤ 3) → Cl shC mX1_addRoutine [pR 1, pI params] h (fun r1 h1 => ((¬ r1 = (-4)) → Cl shC mX4_forgetAll [pR 38] h1 (fun _ h2 => Post r1 h2)) ∧ ((r1 = (-4)) → Post (-3) h1))) ∧ ((¬ params ≤ 3) → Post (-1) h))) :
    Cl shC mX8_routine [pR 0, pI params] h Post := by
  show Ok shC 0 0 mX8_routine 0 [some (pR 0), some (pI params), none] [] h Post
  refine Ok.iload_n (pc' := 1) rfl dX8_routine_0 rfl ?_
  refine Ok.if_lt (tgt := 9) dX8_routine_1 rfl rfl (fun c1 => ?_) (fun c1 => ?_)
  · replace K := K.1 c1
    refine Ok.iconst (pc' := 10) in_m1 dX8_routine_9 rfl ?_
    exact Ok.iret dX8_routine_10 rfl (by decide) K
  · replace K := K.2 c1
    refine Ok.iload_n (pc' := 5) rfl dX8_routine_4 rfl ?_
    refine Ok.iconst (pc' := 6) in_3 dX8_routine_5 rfl ?_
    refine Ok.icmp_le (tgt := 11) dX8_routine_6 rfl rfl (fun c2 => ?_) (fun c2 => ?_)
    · replace K := K.1 c2
      refine Ok.aload_n (pc' := 12) rfl dX8_routine_11 rfl ?_
      refine Ok.getR (pc' := 15) (k := 0) dX8_routine_12 rfl (shC_0 _) rfl inX8 (by decide) rfl wd_382 rfl ?_
      refine Ok.iload_n (pc' := 16) rfl dX8_routine_15 rfl ?_
      refine Ok.callV (pc' := 19) (av := [pI params]) (rest := []) dX8_routine_16 rfl (by decide) cvX8_routine_70 (shC_1 _) rfl rfl rfl (leb rfl) (leb rfl) K (fun r1 h1 K => ?_)
      show Ok shC 0 0 mX8_routine 19 [some (pR 0), some (pI params), none] [pI r1] h1 Post
      refine Ok.istore_n (pc' := 20) (ls' := [some (pR 0), some (pI params), some (pI r1)]) dX8_routine_19 rfl (by decide) rfl rfl ?_
      refine Ok.iload_n (pc' := 21) rfl dX8_routine_20 rfl ?_
      refine Ok.bipush (pc' := 23) ⟨by decide, by decide⟩ dX8_routine_21 rfl ?_
      refine Ok.icmp_ne (tgt := 29) dX8_routine_23 rfl rfl (fun c3 => ?_) (fun c3 => ?_)
      · replace K := K.1 c3
        refine Ok.aload_n (pc' := 30) rfl dX8_routine_29 rfl ?_
        refine Ok.getR (pc' := 33) (k := 4) dX8_routine_30 rfl (shC_0 _) rfl inX8 (by decide) rfl wd_386 rfl ?_
        refine Ok.callV (pc' := 36) (av := []) (rest := []) dX8_routine_33 rfl (by decide) cvX8_routine_73 (shC_38 _) rfl rfl rfl (leb rfl) (leb rfl) K (fun r_ h2 K => ?_)
        show Ok shC 0 0 mX8_routine 36 [some (pR 0), some (pI params), some (pI r1)] [] h2 Post
        refine Ok.iload_n (pc' := 37) rfl dX8_routine_36 rfl ?_
        exact Ok.iret dX8_routine_37 rfl (by decide) K
      · replace K := K.2 c3
        refine Ok.bipush (pc' := 28) ⟨by decide, by decide⟩ dX8_routine_26 rfl ?_
        exact Ok.iret dX8_routine_28 rfl (by decide) K
    · replace K := K.2 c2
      refine Ok.iconst (pc' := 10) in_m1 dX8_routine_9 rfl ?_
      exact Ok.iret dX8_routine_10 rfl (by decide) K
theorem sX8_body_0 {r step : Int} {h : Hp} {Post : Int → Hp → Prop}
    (K : Cl shC mX1_isRoutine [pR 1, pI r] h (fun r1 h1 => ((r1 = 0) → Post (-1) h1) ∧ ((¬ r1 = 0) → ((step = (-1)) → Cl1 shC mX4_hold [pR 38, pR 2] h1 (fun _ h2 => Cl shC mX4_keepHeld [pR 38] h2 (fun _ h3 => Cl shC mX1_setBody [pR 1, pI r, pI (-4)] h3 (fun _ h4 => Cl shC mX1_usesOf [pR 1, pI r] h4 (fun r5 h5 => Post r5 h5))))) ∧ ((¬ step = (-1)) → Cl shC mX1_isLoose [pR 1, pI step] h1 (fun r6 h6 => ((¬ r6 = 0) → Cl1 shC mX4_hold [pR 38, pR 2] h6 (fun _ h7 => Cl shC mX4_keepHeld [pR 38] h7 (fun _ h8 => Cl shC mX1_setBody [pR 1, pI r, pI step] h8 (fun _ h9 => Cl shC mX1_usesOf [pR 1, pI r] h9 (fun r10 h10 => Post r10 h10))))) ∧ ((r6 = 0) → Post (-1) h6)))))) :
    Cl1 shC mX8_body [pR 0, pI r, pI step] h Post := by
  show Ok shC 1 0 mX8_body 0 [some (pR 0), some (pI r), some (pI step)] [] h Post
  refine Ok.aload_n (pc' := 1) rfl dX8_body_0 rfl ?_
  refine Ok.getR (pc' := 4) (k := 0) dX8_body_1 rfl (shC_0 _) rfl inX8 (by decide) rfl wd_382 rfl ?_
  refine Ok.iload_n (pc' := 5) rfl dX8_body_4 rfl ?_
  refine Ok.callV (pc' := 8) (av := [pI r]) (rest := []) dX8_body_5 rfl (by decide) cvX8_body_63 (shC_1 _) rfl rfl rfl (leb rfl) (leb rfl) K (fun r1 h1 K => ?_)
  show Ok shC 1 0 mX8_body 8 [some (pR 0), some (pI r), some (pI step)] [pI r1] h1 Post
  refine Ok.if_eq (tgt := 27) dX8_body_8 rfl rfl (fun c1 => ?_) (fun c1 => ?_)
  · replace K := K.1 c1
    refine Ok.iconst (pc' := 28) in_m1 dX8_body_27 rfl ?_
    exact Ok.iret dX8_body_28 rfl (by decide) K
  · replace K := K.2 c1
    refine Ok.iload_n (pc' := 12) rfl dX8_body_11 rfl ?_
    refine Ok.iconst (pc' := 13) in_m1 dX8_body_12 rfl ?_
    refine Ok.icmp_eq (tgt := 29) dX8_body_13 rfl rfl (fun c2 => ?_) (fun c2 => ?_)
    · replace K := K.1 c2
      refine Ok.aload_n (pc' := 30) rfl dX8_body_29 rfl ?_
      refine Ok.getR (pc' := 33) (k := 4) dX8_body_30 rfl (shC_0 _) rfl inX8 (by decide) rfl wd_386 rfl ?_
      refine Ok.aload_n (pc' := 34) rfl dX8_body_33 rfl ?_
      refine Ok.getR (pc' := 37) (k := 0) dX8_body_34 rfl (shC_0 _) rfl inX8 (by decide) rfl wd_382 rfl ?_
      refine Ok.getRN (pc' := 40) (k := 0) dX8_body_37 rfl (shC_1 _) rfl inX1 (by decide) rfl wd_192 rfl ?_
      refine Ok.callAl (av := [pR 2]) (rest := []) dX8_body_40 rfl cvX8_body_83 (shC_38 _) rfl rfl rfl (leb rfl) (leb rfl) shC_mono (shC_46 _) rfl K (fun r_ h2 K => ?_)
      show Ok shC 1 1 mX8_body 43 [some (pR 0), some (pI r), some (pI step)] [] h2 Post
      refine Ok.aload_n (pc' := 44) rfl dX8_body_43 rfl ?_
      refine Ok.getR (pc' := 47) (k := 4) dX8_body_44 rfl (shC_0 _) rfl inX8 (by decide) rfl wd_386 rfl ?_
      refine Ok.callV (pc' := 50) (av := []) (rest := []) dX8_body_47 rfl (by decide) cvX8_body_87 (shC_38 _) rfl rfl rfl (leb rfl) (leb rfl) K (fun r_ h3 K => ?_)
      show Ok shC 1 1 mX8_body 50 [some (pR 0), some (pI r), some (pI step)] [] h3 Post
      refine Ok.aload_n (pc' := 51) rfl dX8_body_50 rfl ?_
      refine Ok.getR (pc' := 54) (k := 0) dX8_body_51 rfl (shC_0 _) rfl inX8 (by decide) rfl wd_382 rfl ?_
      refine Ok.iload_n (pc' := 55) rfl dX8_body_54 rfl ?_
      refine Ok.iload_n (pc' := 56) rfl dX8_body_55 rfl ?_
      refine Ok.iconst (pc' := 57) in_m1 dX8_body_56 rfl ?_
      refine Ok.icmp_ne (tgt := 65) dX8_body_57 rfl rfl (fun z => absurd c2 z) (fun _ => ?_)
      refine Ok.bipush (pc' := 62) ⟨by decide, by decide⟩ dX8_body_60 rfl ?_
      refine Ok.goto (tgt := 66) dX8_body_62 rfl ?_
      refine Ok.callV (pc' := 69) (av := [pI r, pI (-4)]) (rest := []) dX8_body_66 rfl (by decide) cvX8_body_90 (shC_1 _) rfl rfl rfl (leb rfl) (leb rfl) K (fun r_ h4 K => ?_)
      show Ok shC 1 1 mX8_body 69 [some (pR 0), some (pI r), some (pI step)] [] h4 Post
      refine Ok.aload_n (pc' := 70) rfl dX8_body_69 rfl ?_
      refine Ok.getR (pc' := 73) (k := 0) dX8_body_70 rfl (shC_0 _) rfl inX8 (by decide) rfl wd_382 rfl ?_
      refine Ok.iload_n (pc' := 74) rfl dX8_body_73 rfl ?_
      refine Ok.callV (pc' := 77) (av := [pI r]) (rest := []) dX8_body_74 rfl (by decide) cvX8_body_94 (shC_1 _) rfl rfl rfl (leb rfl) (leb rfl) K (fun r5 h5 K => ?_)
      show Ok shC 1 1 mX8_body 77 [some (pR 0), some (pI r), some (pI step)] [pI r5] h5 Post
      exact Ok.iret dX8_body_77 rfl (by decide) K
    · replace K := K.2 c2
      refine Ok.aload_n (pc' := 17) rfl dX8_body_16 rfl ?_
      refine Ok.getR (pc' := 20) (k := 0) dX8_body_17 rfl (shC_0 _) rfl inX8 (by decide) rfl wd_382 rfl ?_
      refine Ok.iload_n (pc' := 21) rfl dX8_body_20 rfl ?_
      refine Ok.callV (pc' := 24) (av := [pI step]) (rest := []) dX8_body_21 rfl (by decide) cvX8_body_76 (shC_1 _) rfl rfl rfl (leb rfl) (leb rfl) K (fun r6 h6 K => ?_)
      show Ok shC 1 0 mX8_body 24 [some (pR 0), some (pI r), some (pI step)] [pI r6] h6 Post
      refine Ok.if_ne (tgt := 29) dX8_body_24 rfl rfl (fun c3 => ?_) (fun c3 => ?_)
      · replace K := K.1 c3
        refine Ok.aload_n (pc' := 30) rfl dX8_body_29 rfl ?_
        refine Ok.getR (pc' := 33) (k := 4) dX8_body_30 rfl (shC_0 _) rfl inX8 (by decide) rfl wd_386 rfl ?_
        refine Ok.aload_n (pc' := 34) rfl dX8_body_33 rfl ?_
        refine Ok.getR (pc' := 37) (k := 0) dX8_body_34 rfl (shC_0 _) rfl inX8 (by decide) rfl wd_382 rfl ?_
        refine Ok.getRN (pc' := 40) (k := 0) dX8_body_37 rfl (shC_1 _) rfl inX1 (by decide) rfl wd_192 rfl ?_
        refine Ok.callAl (av := [pR 2]) (rest := []) dX8_body_40 rfl cvX8_body_83 (shC_38 _) rfl rfl rfl (leb rfl) (leb rfl) shC_mono (shC_46 _) rfl K (fun r_ h7 K => ?_)
        show Ok shC 1 1 mX8_body 43 [some (pR 0), some (pI r), some (pI step)] [] h7 Post
        refine Ok.aload_n (pc' := 44) rfl dX8_body_43 rfl ?_
        refine Ok.getR (pc' := 47) (k := 4) dX8_body_44 rfl (shC_0 _) rfl inX8 (by decide) rfl wd_386 rfl ?_
        refine Ok.callV (pc' := 50) (av := []) (rest := []) dX8_body_47 rfl (by decide) cvX8_body_87 (shC_38 _) rfl rfl rfl (leb rfl) (leb rfl) K (fun r_ h8 K => ?_)
        show Ok shC 1 1 mX8_body 50 [some (pR 0), some (pI r), some (pI step)] [] h8 Post
        refine Ok.aload_n (pc' := 51) rfl dX8_body_50 rfl ?_
        refine Ok.getR (pc' := 54) (k := 0) dX8_body_51 rfl (shC_0 _) rfl inX8 (by decide) rfl wd_382 rfl ?_
        refine Ok.iload_n (pc' := 55) rfl dX8_body_54 rfl ?_
        refine Ok.iload_n (pc' := 56) rfl dX8_body_55 rfl ?_
        refine Ok.iconst (pc' := 57) in_m1 dX8_body_56 rfl ?_
        refine Ok.icmp_ne (tgt := 65) dX8_body_57 rfl rfl (fun _ => ?_) (fun z => absurd z c2)
        refine Ok.iload_n (pc' := 66) rfl dX8_body_65 rfl ?_
        refine Ok.callV (pc' := 69) (av := [pI r, pI step]) (rest := []) dX8_body_66 rfl (by decide) cvX8_body_90 (shC_1 _) rfl rfl rfl (leb rfl) (leb rfl) K (fun r_ h9 K => ?_)
        show Ok shC 1 1 mX8_body 69 [some (pR 0), some (pI r), some (pI step)] [] h9 Post
        refine Ok.aload_n (pc' := 70) rfl dX8_body_69 rfl ?_
        refine Ok.getR (pc' := 73) (k := 0) dX8_body_70 rfl (shC_0 _) rfl inX8 (by decide) rfl wd_382 rfl ?_
        refine Ok.iload_n (pc' := 74) rfl dX8_body_73 rfl ?_
        refine Ok.callV (pc' := 77) (av := [pI r]) (rest := []) dX8_body_74 rfl (by decide) cvX8_body_94 (shC_1 _) rfl rfl rfl (leb rfl) (leb rfl) K (fun r10 h10 K => ?_)
        show Ok shC 1 1 mX8_body 77 [some (pR 0), some (pI r), some (pI step)] [pI r10] h10 Post
        exact Ok.iret dX8_body_77 rfl (by decide) K
      · replace K := K.2 c3
        refine Ok.iconst (pc' := 28) in_m1 dX8_body_27 rfl ?_
        exact Ok.iret dX8_body_28 rfl (by decide) K
theorem sX8_told_0 {step what : Int} {h : Hp} {Post : Int → Hp → Prop}
    (K : Cl shC mX1_isMade [pR 1, pI step] h (fun r1 h1 => ((¬ r1 = 0) → ((what = 0) → Cl shC mX1_kindOf [pR 1, pI step] h1 (fun r2 h2 => Post r2 h2)) ∧ ((what = 1) → Cl shC mX1_numberOf [pR 1, pI step] h1 (fun r3 h3 => Post r3 h3)) ∧ ((what = 2 ∨ what = 3 ∨ what = 4) → inR ((what - 2)) ∧ (Cl shC mX1_partOf [pR 1, pI step, pI (what - 2)] h1 (fun r4 h4 => Post r4 h4))) ∧ ((what = 5) → Cl shC mX1_parentOf [pR 1, pI step] h1 (fun r5 h5 => Post r5 h5)) ∧ ((what = 6) → Cl shC mX1_routineOf [pR 1, pI step] h1 (fun r6 h6 => Post r6 h6)) ∧ ((what = 7) → Cl shC mX1_isStep [pR 1, pI step] h1 (fun r7 h7 => ((r7 = 0) → Post 0 h7) ∧ ((¬ r7 = 0) → Cl shC mX2_countOf [pR 19, pI step] h7 (fun r8 h8 => Post r8 h8)))) ∧ ((what = 8) → Cl shC mX1_sizeOf [pR 1, pI step] h1 (fun r9 h9 => Post r9 h9)) ∧ ((what < 0 ∨ 8 < what) → Post (-1000000000) h1)) ∧ ((r1 = 0) → Post (-1000000000) h1))) :
    Cl shC mX8_told [pR 0, pI step, pI what] h Post := by
  show Ok shC 0 0 mX8_told 0 [some (pR 0), some (pI step), some (pI what)] [] h Post
  refine Ok.aload_n (pc' := 1) rfl dX8_told_0 rfl ?_
  refine Ok.getR (pc' := 4) (k := 0) dX8_told_1 rfl (shC_0 _) rfl inX8 (by decide) rfl wd_382 rfl ?_
  refine Ok.iload_n (pc' := 5) rfl dX8_told_4 rfl ?_
  refine Ok.callV (pc' := 8) (av := [pI step]) (rest := []) dX8_told_5 rfl (by decide) cvX8_told_97 (shC_1 _) rfl rfl rfl (leb rfl) (leb rfl) K (fun r1 h1 K => ?_)
  show Ok shC 0 0 mX8_told 8 [some (pR 0), some (pI step), some (pI what)] [pI r1] h1 Post
  refine Ok.if_ne (tgt := 14) dX8_told_8 rfl rfl (fun c1 => ?_) (fun c1 => ?_)
  · replace K := K.1 c1
    refine Ok.iload_n (pc' := 15) rfl dX8_told_14 rfl ?_
    obtain ⟨Kc2_0, Kc2_1, Kc2_2, Kc2_3, Kc2_4, Kc2_5, Kc2_6, Kc2_7⟩ := K
    refine Ok.tsw dX8_told_15 rfl ⟨by decide, by decide⟩ (fun tgt ht => ?_)
    have hx : (what = 0) ∨ (what = 1) ∨ (what = 2 ∨ what = 3 ∨ what = 4) ∨ (what = 5) ∨ (what = 6) ∨ (what = 7) ∨ (what = 8) ∨ (what < 0 ∨ 8 < what) := by omega
    rcases hx with c2 | c2 | c2 | c2 | c2 | c2 | c2 | c2
    · obtain rfl : 64 = tgt := by rw [c2] at ht; exact Int.ofNat.inj ht
      have K := Kc2_0 c2
      refine Ok.aload_n (pc' := 65) rfl dX8_told_64 rfl ?_
      refine Ok.getR (pc' := 68) (k := 0) dX8_told_65 rfl (shC_0 _) rfl inX8 (by decide) rfl wd_382 rfl ?_
      refine Ok.iload_n (pc' := 69) rfl dX8_told_68 rfl ?_
      refine Ok.callV (pc' := 72) (av := [pI step]) (rest := []) dX8_told_69 rfl (by decide) cvX8_told_101 (shC_1 _) rfl rfl rfl (leb rfl) (leb rfl) K (fun r2 h2 K => ?_)
      show Ok shC 0 0 mX8_told 72 [some (pR 0), some (pI step), some (pI what)] [pI r2] h2 Post
      exact Ok.iret dX8_told_72 rfl (by decide) K
    · obtain rfl : 73 = tgt := by rw [c2] at ht; exact Int.ofNat.inj ht
      have K := Kc2_1 c2
      refine Ok.aload_n (pc' := 74) rfl dX8_told_73 rfl ?_
      refine Ok.getR (pc' := 77) (k := 0) dX8_told_74 rfl (shC_0 _) rfl inX8 (by decide) rfl wd_382 rfl ?_
      refine Ok.iload_n (pc' := 78) rfl dX8_told_77 rfl ?_
      refine Ok.callV (pc' := 81) (av := [pI step]) (rest := []) dX8_told_78 rfl (by decide) cvX8_told_104 (shC_1 _) rfl rfl rfl (leb rfl) (leb rfl) K (fun r3 h3 K => ?_)
      show Ok shC 0 0 mX8_told 81 [some (pR 0), some (pI step), some (pI what)] [pI r3] h3 Post
      exact Ok.iret dX8_told_81 rfl (by decide) K
    · obtain rfl : 82 = tgt := by rcases c2 with q | q | q <;> (rw [q] at ht; exact Int.ofNat.inj ht)
      have K := Kc2_2 c2
      refine Ok.aload_n (pc' := 83) rfl dX8_told_82 rfl ?_
      refine Ok.getR (pc' := 86) (k := 0) dX8_told_83 rfl (shC_0 _) rfl inX8 (by decide) rfl wd_382 rfl ?_
      refine Ok.iload_n (pc' := 87) rfl dX8_told_86 rfl ?_
      refine Ok.iload_n (pc' := 88) rfl dX8_told_87 rfl ?_
      refine Ok.iconst (pc' := 89) in_2 dX8_told_88 rfl ?_
      obtain ⟨q3, K⟩ := K
      refine Ok.isub (pc' := 90) dX8_told_89 rfl q3 ?_
      refine Ok.callV (pc' := 93) (av := [pI step, pI (what - 2)]) (rest := []) dX8_told_90 rfl (by decide) cvX8_told_107 (shC_1 _) rfl rfl rfl (leb rfl) (leb rfl) K (fun r4 h4 K => ?_)
      show Ok shC 0 0 mX8_told 93 [some (pR 0), some (pI step), some (pI what)] [pI r4] h4 Post
      exact Ok.iret dX8_told_93 rfl (by decide) K
    · obtain rfl : 94 = tgt := by rw [c2] at ht; exact Int.ofNat.inj ht
      have K := Kc2_3 c2
      refine Ok.aload_n (pc' := 95) rfl dX8_told_94 rfl ?_
      refine Ok.getR (pc' := 98) (k := 0) dX8_told_95 rfl (shC_0 _) rfl inX8 (by decide) rfl wd_382 rfl ?_
      refine Ok.iload_n (pc' := 99) rfl dX8_told_98 rfl ?_
      refine Ok.callV (pc' := 102) (av := [pI step]) (rest := []) dX8_told_99 rfl (by decide) cvX8_told_111 (shC_1 _) rfl rfl rfl (leb rfl) (leb rfl) K (fun r5 h5 K => ?_)
      show Ok shC 0 0 mX8_told 102 [some (pR 0), some (pI step), some (pI what)] [pI r5] h5 Post
      exact Ok.iret dX8_told_102 rfl (by decide) K
    · obtain rfl : 103 = tgt := by rw [c2] at ht; exact Int.ofNat.inj ht
      have K := Kc2_4 c2
      refine Ok.aload_n (pc' := 104) rfl dX8_told_103 rfl ?_
      refine Ok.getR (pc' := 107) (k := 0) dX8_told_104 rfl (shC_0 _) rfl inX8 (by decide) rfl wd_382 rfl ?_
      refine Ok.iload_n (pc' := 108) rfl dX8_told_107 rfl ?_
      refine Ok.callV (pc' := 111) (av := [pI step]) (rest := []) dX8_told_108 rfl (by decide) cvX8_told_114 (shC_1 _) rfl rfl rfl (leb rfl) (leb rfl) K (fun r6 h6 K => ?_)
      show Ok shC 0 0 mX8_told 111 [some (pR 0), some (pI step), some (pI what)] [pI r6] h6 Post
      exact Ok.iret dX8_told_111 rfl (by decide) K
    · obtain rfl : 112 = tgt := by rw [c2] at ht; exact Int.ofNat.inj ht
      have K := Kc2_5 c2
      refine Ok.aload_n (pc' := 113) rfl dX8_told_112 rfl ?_
      refine Ok.getR (pc' := 116) (k := 0) dX8_told_113 rfl (shC_0 _) rfl inX8 (by decide) rfl wd_382 rfl ?_
      refine Ok.iload_n (pc' := 117) rfl dX8_told_116 rfl ?_
      refine Ok.callV (pc' := 120) (av := [pI step]) (rest := []) dX8_told_117 rfl (by decide) cvX8_told_117 (shC_1 _) rfl rfl rfl (leb rfl) (leb rfl) K (fun r7 h7 K => ?_)
      show Ok shC 0 0 mX8_told 120 [some (pR 0), some (pI step), some (pI what)] [pI r7] h7 Post
      refine Ok.if_eq (tgt := 134) dX8_told_120 rfl rfl (fun c3 => ?_) (fun c3 => ?_)
      · replace K := K.1 c3
        refine Ok.iconst (pc' := 135) in_0 dX8_told_134 rfl ?_
        exact Ok.iret dX8_told_135 rfl (by decide) K
      · replace K := K.2 c3
        refine Ok.aload_n (pc' := 124) rfl dX8_told_123 rfl ?_
        refine Ok.getR (pc' := 127) (k := 1) dX8_told_124 rfl (shC_0 _) rfl inX8 (by decide) rfl wd_383 rfl ?_
        refine Ok.iload_n (pc' := 128) rfl dX8_told_127 rfl ?_
        refine Ok.callV (pc' := 131) (av := [pI step]) (rest := []) dX8_told_128 rfl (by decide) cvX8_told_120 (shC_19 _) rfl rfl rfl (leb rfl) (leb rfl) K (fun r8 h8 K => ?_)
        show Ok shC 0 0 mX8_told 131 [some (pR 0), some (pI step), some (pI what)] [pI r8] h8 Post
        refine Ok.goto (tgt := 135) dX8_told_131 rfl ?_
        exact Ok.iret dX8_told_135 rfl (by decide) K
    · obtain rfl : 136 = tgt := by rw [c2] at ht; exact Int.ofNat.inj ht
      have K := Kc2_6 c2
      refine Ok.aload_n (pc' := 137) rfl dX8_told_136 rfl ?_
      refine Ok.getR (pc' := 140) (k := 0) dX8_told_137 rfl (shC_0 _) rfl inX8 (by decide) rfl wd_382 rfl ?_
      refine Ok.iload_n (pc' := 141) rfl dX8_told_140 rfl ?_
      refine Ok.callV (pc' := 144) (av := [pI step]) (rest := []) dX8_told_141 rfl (by decide) cvX8_told_123 (shC_1 _) rfl rfl rfl (leb rfl) (leb rfl) K (fun r9 h9 K => ?_)
      show Ok shC 0 0 mX8_told 144 [some (pR 0), some (pI step), some (pI what)] [pI r9] h9 Post
      exact Ok.iret dX8_told_144 rfl (by decide) K
    · obtain rfl : 145 = tgt := by
        rcases c2 with q | q
        · rw [swT_out (Or.inl q)] at ht; exact Int.ofNat.inj ht
        · rw [swT_out (Or.inr q)] at ht; exact Int.ofNat.inj ht
      have K := Kc2_7 c2
      refine Ok.ldc (n := (-1000000000)) (pc' := 147) ⟨by decide, by decide⟩ wd_546 (by decide) dX8_told_145 rfl ?_
      exact Ok.iret dX8_told_147 rfl (by decide) K
  · replace K := K.2 c1
    refine Ok.ldc (n := (-1000000000)) (pc' := 13) ⟨by decide, by decide⟩ wd_546 (by decide) dX8_told_11 rfl ?_
    exact Ok.iret dX8_told_13 rfl (by decide) K
theorem sX8_about_0 {r what : Int} {h : Hp} {Post : Int → Hp → Prop}
    (K : Cl shC mX1_isRoutine [pR 1, pI r] h (fun r1 h1 => ((¬ r1 = 0) → ((what = 0) → Cl shC mX1_paramsOf [pR 1, pI r] h1 (fun r2 h2 => Post r2 h2)) ∧ ((what = 1) → Cl shC mX1_bodyOf [pR 1, pI r] h1 (fun r3 h3 => Post r3 h3)) ∧ ((what = 2) → Cl shC mX1_bodyOf [pR 1, pI r] h1 (fun r4 h4 => Cl shC mX1_sizeOf [pR 1, pI r4] h4 (fun r5 h5 => Post r5 h5))) ∧ ((what = 3) → Cl shC mX1_usesOf [pR 1, pI r] h1 (fun r6 h6 => Post r6 h6)) ∧ ((what = 4) → Cl shC mX1_callsIn [pR 1, pI r] h1 (fun r7 h7 => Post r7 h7)) ∧ ((what = 5) → Cl shC mX1_callsOf [pR 1, pI r] h1 (fun r8 h8 => Post r8 h8)) ∧ ((what < 0 ∨ 5 < what) → Post (-1) h1)) ∧ ((r1 = 0) → Post (-1) h1))) :
    Cl shC mX8_about [pR 0, pI r, pI what] h Post := by
  show Ok shC 0 0 mX8_about 0 [some (pR 0), some (pI r), some (pI what)] [] h Post
  refine Ok.aload_n (pc' := 1) rfl dX8_about_0 rfl ?_
  refine Ok.getR (pc' := 4) (k := 0) dX8_about_1 rfl (shC_0 _) rfl inX8 (by decide) rfl wd_382 rfl ?_
  refine Ok.iload_n (pc' := 5) rfl dX8_about_4 rfl ?_
  refine Ok.callV (pc' := 8) (av := [pI r]) (rest := []) dX8_about_5 rfl (by decide) cvX8_about_63 (shC_1 _) rfl rfl rfl (leb rfl) (leb rfl) K (fun r1 h1 K => ?_)
  show Ok shC 0 0 mX8_about 8 [some (pR 0), some (pI r), some (pI what)] [pI r1] h1 Post
  refine Ok.if_ne (tgt := 13) dX8_about_8 rfl rfl (fun c1 => ?_) (fun c1 => ?_)
  · replace K := K.1 c1
    refine Ok.iload_n (pc' := 14) rfl dX8_about_13 rfl ?_
    obtain ⟨Kc2_0, Kc2_1, Kc2_2, Kc2_3, Kc2_4, Kc2_5, Kc2_6⟩ := K
    refine Ok.tsw dX8_about_14 rfl ⟨by decide, by decide⟩ (fun tgt ht => ?_)
    have hx : (what = 0) ∨ (what = 1) ∨ (what = 2) ∨ (what = 3) ∨ (what = 4) ∨ (what = 5) ∨ (what < 0 ∨ 5 < what) := by omega
    rcases hx with c2 | c2 | c2 | c2 | c2 | c2 | c2
    · obtain rfl : 52 = tgt := by rw [c2] at ht; exact Int.ofNat.inj ht
      have K := Kc2_0 c2
      refine Ok.aload_n (pc' := 53) rfl dX8_about_52 rfl ?_
      refine Ok.getR (pc' := 56) (k := 0) dX8_about_53 rfl (shC_0 _) rfl inX8 (by decide) rfl wd_382 rfl ?_
      refine Ok.iload_n (pc' := 57) rfl dX8_about_56 rfl ?_
      refine Ok.callV (pc' := 60) (av := [pI r]) (rest := []) dX8_about_57 rfl (by decide) cvX8_about_66 (shC_1 _) rfl rfl rfl (leb rfl) (leb rfl) K (fun r2 h2 K => ?_)
      show Ok shC 0 0 mX8_about 60 [some (pR 0), some (pI r), some (pI what)] [pI r2] h2 Post
      exact Ok.iret dX8_about_60 rfl (by decide) K
    · obtain rfl : 61 = tgt := by rw [c2] at ht; exact Int.ofNat.inj ht
      have K := Kc2_1 c2
      refine Ok.aload_n (pc' := 62) rfl dX8_about_61 rfl ?_
      refine Ok.getR (pc' := 65) (k := 0) dX8_about_62 rfl (shC_0 _) rfl inX8 (by decide) rfl wd_382 rfl ?_
      refine Ok.iload_n (pc' := 66) rfl dX8_about_65 rfl ?_
      refine Ok.callV (pc' := 69) (av := [pI r]) (rest := []) dX8_about_66 rfl (by decide) cvX8_about_126 (shC_1 _) rfl rfl rfl (leb rfl) (leb rfl) K (fun r3 h3 K => ?_)
      show Ok shC 0 0 mX8_about 69 [some (pR 0), some (pI r), some (pI what)] [pI r3] h3 Post
      exact Ok.iret dX8_about_69 rfl (by decide) K
    · obtain rfl : 70 = tgt := by rw [c2] at ht; exact Int.ofNat.inj ht
      have K := Kc2_2 c2
      refine Ok.aload_n (pc' := 71) rfl dX8_about_70 rfl ?_
      refine Ok.getR (pc' := 74) (k := 0) dX8_about_71 rfl (shC_0 _) rfl inX8 (by decide) rfl wd_382 rfl ?_
      refine Ok.aload_n (pc' := 75) rfl dX8_about_74 rfl ?_
      refine Ok.getR (pc' := 78) (k := 0) dX8_about_75 rfl (shC_0 _) rfl inX8 (by decide) rfl wd_382 rfl ?_
      refine Ok.iload_n (pc' := 79) rfl dX8_about_78 rfl ?_
      refine Ok.callV (pc' := 82) (av := [pI r]) (rest := [pR 1]) dX8_about_79 rfl (by decide) cvX8_about_126 (shC_1 _) rfl rfl rfl (leb rfl) (leb rfl) K (fun r4 h4 K => ?_)
      show Ok shC 0 0 mX8_about 82 [some (pR 0), some (pI r), some (pI what)] [pI r4, pR 1] h4 Post
      refine Ok.callV (pc' := 85) (av := [pI r4]) (rest := []) dX8_about_82 rfl (by decide) cvX8_about_123 (shC_1 _) rfl rfl rfl (leb rfl) (leb rfl) K (fun r5 h5 K => ?_)
      show Ok shC 0 0 mX8_about 85 [some (pR 0), some (pI r), some (pI what)] [pI r5] h5 Post
      exact Ok.iret dX8_about_85 rfl (by decide) K
    · obtain rfl : 86 = tgt := by rw [c2] at ht; exact Int.ofNat.inj ht
      have K := Kc2_3 c2
      refine Ok.aload_n (pc' := 87) rfl dX8_about_86 rfl ?_
      refine Ok.getR (pc' := 90) (k := 0) dX8_about_87 rfl (shC_0 _) rfl inX8 (by decide) rfl wd_382 rfl ?_
      refine Ok.iload_n (pc' := 91) rfl dX8_about_90 rfl ?_
      refine Ok.callV (pc' := 94) (av := [pI r]) (rest := []) dX8_about_91 rfl (by decide) cvX8_about_94 (shC_1 _) rfl rfl rfl (leb rfl) (leb rfl) K (fun r6 h6 K => ?_)
      show Ok shC 0 0 mX8_about 94 [some (pR 0), some (pI r), some (pI what)] [pI r6] h6 Post
      exact Ok.iret dX8_about_94 rfl (by decide) K
    · obtain rfl : 95 = tgt := by rw [c2] at ht; exact Int.ofNat.inj ht
      have K := Kc2_4 c2
      refine Ok.aload_n (pc' := 96) rfl dX8_about_95 rfl ?_
      refine Ok.getR (pc' := 99) (k := 0) dX8_about_96 rfl (shC_0 _) rfl inX8 (by decide) rfl wd_382 rfl ?_
      refine Ok.iload_n (pc' := 100) rfl dX8_about_99 rfl ?_
      refine Ok.callV (pc' := 103) (av := [pI r]) (rest := []) dX8_about_100 rfl (by decide) cvX8_about_129 (shC_1 _) rfl rfl rfl (leb rfl) (leb rfl) K (fun r7 h7 K => ?_)
      show Ok shC 0 0 mX8_about 103 [some (pR 0), some (pI r), some (pI what)] [pI r7] h7 Post
      exact Ok.iret dX8_about_103 rfl (by decide) K
    · obtain rfl : 104 = tgt := by rw [c2] at ht; exact Int.ofNat.inj ht
      have K := Kc2_5 c2
      refine Ok.aload_n (pc' := 105) rfl dX8_about_104 rfl ?_
      refine Ok.getR (pc' := 108) (k := 0) dX8_about_105 rfl (shC_0 _) rfl inX8 (by decide) rfl wd_382 rfl ?_
      refine Ok.iload_n (pc' := 109) rfl dX8_about_108 rfl ?_
      refine Ok.callV (pc' := 112) (av := [pI r]) (rest := []) dX8_about_109 rfl (by decide) cvX8_about_132 (shC_1 _) rfl rfl rfl (leb rfl) (leb rfl) K (fun r8 h8 K => ?_)
      show Ok shC 0 0 mX8_about 112 [some (pR 0), some (pI r), some (pI what)] [pI r8] h8 Post
      exact Ok.iret dX8_about_112 rfl (by decide) K
    · obtain rfl : 113 = tgt := by
        rcases c2 with q | q
        · rw [swT_out (Or.inl q)] at ht; exact Int.ofNat.inj ht
        · rw [swT_out (Or.inr q)] at ht; exact Int.ofNat.inj ht
      have K := Kc2_6 c2
      refine Ok.iconst (pc' := 114) in_m1 dX8_about_113 rfl ?_
      exact Ok.iret dX8_about_114 rfl (by decide) K
  · replace K := K.2 c1
    refine Ok.iconst (pc' := 12) in_m1 dX8_about_11 rfl ?_
    exact Ok.iret dX8_about_12 rfl (by decide) K
theorem sX8_same_0 {x y : Int} {h : Hp} {Post : Int → Hp → Prop}
    (K : Cl shC mX1_isStep [pR 1, pI x] h (fun r1 h1 => ((r1 = 0) → Post (-1) h1) ∧ ((¬ r1 = 0) → Cl shC mX1_isStep [pR 1, pI y] h1 (fun r2 h2 => ((¬ r2 = 0) → Cl shC mX1_areAlike [pR 1, pI x, pI y] h2 (fun r3 h3 => ((r3 = 0) → Post 0 h3) ∧ ((¬ r3 = 0) → Post 1 h3))) ∧ ((r2 = 0) → Post (-1) h2))))) :
    Cl shC mX8_same [pR 0, pI x, pI y] h Post := by
  show Ok shC 0 0 mX8_same 0 [some (pR 0), some (pI x), some (pI y)] [] h Post
  refine Ok.aload_n (pc' := 1) rfl dX8_same_0 rfl ?_
  refine Ok.getR (pc' := 4) (k := 0) dX8_same_1 rfl (shC_0 _) rfl inX8 (by decide) rfl wd_382 rfl ?_
  refine Ok.iload_n (pc' := 5) rfl dX8_same_4 rfl ?_
  refine Ok.callV (pc' := 8) (av := [pI x]) (rest := []) dX8_same_5 rfl (by decide) cvX8_same_117 (shC_1 _) rfl rfl rfl (leb rfl) (leb rfl) K (fun r1 h1 K => ?_)
  show Ok shC 0 0 mX8_same 8 [some (pR 0), some (pI x), some (pI y)] [pI r1] h1 Post
  refine Ok.if_eq (tgt := 22) dX8_same_8 rfl rfl (fun c1 => ?_) (fun c1 => ?_)
  · replace K := K.1 c1
    refine Ok.iconst (pc' := 23) in_m1 dX8_same_22 rfl ?_
    exact Ok.iret dX8_same_23 rfl (by decide) K
  · replace K := K.2 c1
    refine Ok.aload_n (pc' := 12) rfl dX8_same_11 rfl ?_
    refine Ok.getR (pc' := 15) (k := 0) dX8_same_12 rfl (shC_0 _) rfl inX8 (by decide) rfl wd_382 rfl ?_
    refine Ok.iload_n (pc' := 16) rfl dX8_same_15 rfl ?_
    refine Ok.callV (pc' := 19) (av := [pI y]) (rest := []) dX8_same_16 rfl (by decide) cvX8_same_117 (shC_1 _) rfl rfl rfl (leb rfl) (leb rfl) K (fun r2 h2 K => ?_)
    show Ok shC 0 0 mX8_same 19 [some (pR 0), some (pI x), some (pI y)] [pI r2] h2 Post
    refine Ok.if_ne (tgt := 24) dX8_same_19 rfl rfl (fun c2 => ?_) (fun c2 => ?_)
    · replace K := K.1 c2
      refine Ok.aload_n (pc' := 25) rfl dX8_same_24 rfl ?_
      refine Ok.getR (pc' := 28) (k := 0) dX8_same_25 rfl (shC_0 _) rfl inX8 (by decide) rfl wd_382 rfl ?_
      refine Ok.iload_n (pc' := 29) rfl dX8_same_28 rfl ?_
      refine Ok.iload_n (pc' := 30) rfl dX8_same_29 rfl ?_
      refine Ok.callV (pc' := 33) (av := [pI x, pI y]) (rest := []) dX8_same_30 rfl (by decide) cvX8_same_135 (shC_1 _) rfl rfl rfl (leb rfl) (leb rfl) K (fun r3 h3 K => ?_)
      show Ok shC 0 0 mX8_same 33 [some (pR 0), some (pI x), some (pI y)] [pI r3] h3 Post
      refine Ok.if_eq (tgt := 40) dX8_same_33 rfl rfl (fun c3 => ?_) (fun c3 => ?_)
      · replace K := K.1 c3
        refine Ok.iconst (pc' := 41) in_0 dX8_same_40 rfl ?_
        exact Ok.iret dX8_same_41 rfl (by decide) K
      · replace K := K.2 c3
        refine Ok.iconst (pc' := 37) in_1 dX8_same_36 rfl ?_
        refine Ok.goto (tgt := 41) dX8_same_37 rfl ?_
        exact Ok.iret dX8_same_41 rfl (by decide) K
    · replace K := K.2 c2
      refine Ok.iconst (pc' := 23) in_m1 dX8_same_22 rfl ?_
      exact Ok.iret dX8_same_23 rfl (by decide) K
theorem sX8_run_0 {r a b c0 fuel : Int} {h : Hp} {Post : Int → Hp → Prop}
    (K : Cl shC mX1_isRoutine [pR 1, pI r] h (fun r1 h1 => ((r1 = 0) → Post (-1) h1) ∧ ((¬ r1 = 0) → ((fuel < 0) → Post (-1) h1) ∧ ((¬ fuel < 0) → ((fuel ≤ 2000) → Cl shC mX2_isSpent [pR 19] h1 (fun r2 h2 => ((r2 = 0) → Cl shC mX2_start [pR 19, pI r, pI a, pI b, pI c0, pI fuel] h2 (fun r3 h3 => Post r3 h3)) ∧ ((¬ r2 = 0) → Post (-3) h2))) ∧ ((¬ fuel ≤ 2000) → Post (-1) h1))))) :
    Cl shC mX8_run [pR 0, pI r, pI a, pI b, pI c0, pI fuel] h Post := by
  show Ok shC 0 0 mX8_run 0 [some (pR 0), some (pI r), some (pI a), some (pI b), some (pI c0), some (pI fuel)] [] h Post
  refine Ok.aload_n (pc' := 1) rfl dX8_run_0 rfl ?_
  refine Ok.getR (pc' := 4) (k := 0) dX8_run_1 rfl (shC_0 _) rfl inX8 (by decide) rfl wd_382 rfl ?_
  refine Ok.iload_n (pc' := 5) rfl dX8_run_4 rfl ?_
  refine Ok.callV (pc' := 8) (av := [pI r]) (rest := []) dX8_run_5 rfl (by decide) cvX8_run_63 (shC_1 _) rfl rfl rfl (leb rfl) (leb rfl) K (fun r1 h1 K => ?_)
  show Ok shC 0 0 mX8_run 8 [some (pR 0), some (pI r), some (pI a), some (pI b), some (pI c0), some (pI fuel)] [pI r1] h1 Post
  refine Ok.if_eq (tgt := 24) dX8_run_8 rfl rfl (fun c1 => ?_) (fun c1 => ?_)
  · replace K := K.1 c1
    refine Ok.iconst (pc' := 25) in_m1 dX8_run_24 rfl ?_
    exact Ok.iret dX8_run_25 rfl (by decide) K
  · replace K := K.2 c1
    refine Ok.iload (pc' := 13) rfl dX8_run_11 rfl ?_
    refine Ok.if_lt (tgt := 24) dX8_run_13 rfl rfl (fun c2 => ?_) (fun c2 => ?_)
    · replace K := K.1 c2
      refine Ok.iconst (pc' := 25) in_m1 dX8_run_24 rfl ?_
      exact Ok.iret dX8_run_25 rfl (by decide) K
    · replace K := K.2 c2
      refine Ok.iload (pc' := 18) rfl dX8_run_16 rfl ?_
      refine Ok.sipush (pc' := 21) ⟨by decide, by decide⟩ dX8_run_18 rfl ?_
      refine Ok.icmp_le (tgt := 26) dX8_run_21 rfl rfl (fun c3 => ?_) (fun c3 => ?_)
      · replace K := K.1 c3
        refine Ok.aload_n (pc' := 27) rfl dX8_run_26 rfl ?_
        refine Ok.getR (pc' := 30) (k := 1) dX8_run_27 rfl (shC_0 _) rfl inX8 (by decide) rfl wd_383 rfl ?_
        refine Ok.callV (pc' := 33) (av := []) (rest := []) dX8_run_30 rfl (by decide) cvX8_run_139 (shC_19 _) rfl rfl rfl (leb rfl) (leb rfl) K (fun r2 h2 K => ?_)
        show Ok shC 0 0 mX8_run 33 [some (pR 0), some (pI r), some (pI a), some (pI b), some (pI c0), some (pI fuel)] [pI r2] h2 Post
        refine Ok.if_eq (tgt := 39) dX8_run_33 rfl rfl (fun c4 => ?_) (fun c4 => ?_)
        · replace K := K.1 c4
          refine Ok.aload_n (pc' := 40) rfl dX8_run_39 rfl ?_
          refine Ok.getR (pc' := 43) (k := 1) dX8_run_40 rfl (shC_0 _) rfl inX8 (by decide) rfl wd_383 rfl ?_
          refine Ok.iload_n (pc' := 44) rfl dX8_run_43 rfl ?_
          refine Ok.iload_n (pc' := 45) rfl dX8_run_44 rfl ?_
          refine Ok.iload_n (pc' := 46) rfl dX8_run_45 rfl ?_
          refine Ok.iload (pc' := 48) rfl dX8_run_46 rfl ?_
          refine Ok.iload (pc' := 50) rfl dX8_run_48 rfl ?_
          refine Ok.callV (pc' := 53) (av := [pI r, pI a, pI b, pI c0, pI fuel]) (rest := []) dX8_run_50 rfl (by decide) cvX8_run_143 (shC_19 _) rfl rfl rfl (leb rfl) (leb rfl) K (fun r3 h3 K => ?_)
          show Ok shC 0 0 mX8_run 53 [some (pR 0), some (pI r), some (pI a), some (pI b), some (pI c0), some (pI fuel)] [pI r3] h3 Post
          exact Ok.iret dX8_run_53 rfl (by decide) K
        · replace K := K.2 c4
          refine Ok.bipush (pc' := 38) ⟨by decide, by decide⟩ dX8_run_36 rfl ?_
          exact Ok.iret dX8_run_38 rfl (by decide) K
      · replace K := K.2 c3
        refine Ok.iconst (pc' := 25) in_m1 dX8_run_24 rfl ?_
        exact Ok.iret dX8_run_25 rfl (by decide) K
theorem sX8_ran_0 {what : Int} {h : Hp} {Post : Int → Hp → Prop}
    (K : ((what < 0) → Post (-1000000000) h) ∧ ((¬ what < 0) → ((what ≤ 3) → Cl shC mX2_latest [pR 19, pI what] h (fun r1 h1 => Post r1 h1)) ∧ ((¬ what ≤ 3) → Post (-1000000000) h))) :
    Cl shC mX8_ran [pR 0, pI what] h Post := by
  show Ok shC 0 0 mX8_ran 0 [some (pR 0), some (pI what)] [] h Post
  refine Ok.iload_n (pc' := 1) rfl dX8_ran_0 rfl ?_
  refine Ok.if_lt (tgt := 9) dX8_ran_1 rfl rfl (fun c1 => ?_) (fun c1 => ?_)
  · replace K := K.1 c1
    refine Ok.ldc (n := (-1000000000)) (pc' := 11) ⟨by decide, by decide⟩ wd_546 (by decide) dX8_ran_9 rfl ?_
    refine Ok.goto (tgt := 22) dX8_ran_11 rfl ?_
    exact Ok.iret dX8_ran_22 rfl (by decide) K
  · replace K := K.2 c1
    refine Ok.iload_n (pc' := 5) rfl dX8_ran_4 rfl ?_
    refine Ok.iconst (pc' := 6) in_3 dX8_ran_5 rfl ?_
    refine Ok.icmp_le (tgt := 14) dX8_ran_6 rfl rfl (fun c2 => ?_) (fun c2 => ?_)
    · replace K := K.1 c2
      refine Ok.aload_n (pc' := 15) rfl dX8_ran_14 rfl ?_
      refine Ok.getR (pc' := 18) (k := 1) dX8_ran_15 rfl (shC_0 _) rfl inX8 (by decide) rfl wd_383 rfl ?_
      refine Ok.iload_n (pc' := 19) rfl dX8_ran_18 rfl ?_
      refine Ok.callV (pc' := 22) (av := [pI what]) (rest := []) dX8_ran_19 rfl (by decide) cvX8_ran_147 (shC_19 _) rfl rfl rfl (leb rfl) (leb rfl) K (fun r1 h1 K => ?_)
      show Ok shC 0 0 mX8_ran 22 [some (pR 0), some (pI what)] [pI r1] h1 Post
      exact Ok.iret dX8_ran_22 rfl (by decide) K
    · replace K := K.2 c2
      refine Ok.ldc (n := (-1000000000)) (pc' := 11) ⟨by decide, by decide⟩ wd_546 (by decide) dX8_ran_9 rfl ?_
      refine Ok.goto (tgt := 22) dX8_ran_11 rfl ?_
      exact Ok.iret dX8_ran_22 rfl (by decide) K
theorem sX8_row_0 {i0 : Int} {h : Hp} {Post : Int → Hp → Prop}
    (K : Cl shC mX2_reach [pR 19, pI i0] h (fun r1 h1 => Post r1 h1)) :
    Cl shC mX8_row [pR 0, pI i0] h Post := by
  show Ok shC 0 0 mX8_row 0 [some (pR 0), some (pI i0)] [] h Post
  refine Ok.aload_n (pc' := 1) rfl dX8_row_0 rfl ?_
  refine Ok.getR (pc' := 4) (k := 1) dX8_row_1 rfl (shC_0 _) rfl inX8 (by decide) rfl wd_383 rfl ?_
  refine Ok.iload_n (pc' := 5) rfl dX8_row_4 rfl ?_
  refine Ok.callV (pc' := 8) (av := [pI i0]) (rest := []) dX8_row_5 rfl (by decide) cvX8_row_150 (shC_19 _) rfl rfl rfl (leb rfl) (leb rfl) K (fun r1 h1 K => ?_)
  show Ok shC 0 0 mX8_row 8 [some (pR 0), some (pI i0)] [pI r1] h1 Post
  exact Ok.iret dX8_row_8 rfl (by decide) K
theorem sX8_lay_0 {i0 v : Int} {h : Hp} {Post : Int → Hp → Prop}
    (K : Cl shC mX2_put [pR 19, pI i0, pI v] h (fun r1 h1 => ((r1 = 0) → Post (-1) h1) ∧ ((¬ r1 = 0) → Post 1 h1))) :
    Cl shC mX8_lay [pR 0, pI i0, pI v] h Post := by
  show Ok shC 0 0 mX8_lay 0 [some (pR 0), some (pI i0), some (pI v)] [] h Post
  refine Ok.aload_n (pc' := 1) rfl dX8_lay_0 rfl ?_
  refine Ok.getR (pc' := 4) (k := 1) dX8_lay_1 rfl (shC_0 _) rfl inX8 (by decide) rfl wd_383 rfl ?_
  refine Ok.iload_n (pc' := 5) rfl dX8_lay_4 rfl ?_
  refine Ok.iload_n (pc' := 6) rfl dX8_lay_5 rfl ?_
  refine Ok.callV (pc' := 9) (av := [pI i0, pI v]) (rest := []) dX8_lay_6 rfl (by decide) cvX8_lay_153 (shC_19 _) rfl rfl rfl (leb rfl) (leb rfl) K (fun r1 h1 K => ?_)
  show Ok shC 0 0 mX8_lay 9 [some (pR 0), some (pI i0), some (pI v)] [pI r1] h1 Post
  refine Ok.if_eq (tgt := 16) dX8_lay_9 rfl rfl (fun c1 => ?_) (fun c1 => ?_)
  · replace K := K.1 c1
    refine Ok.iconst (pc' := 17) in_m1 dX8_lay_16 rfl ?_
    exact Ok.iret dX8_lay_17 rfl (by decide) K
  · replace K := K.2 c1
    refine Ok.iconst (pc' := 13) in_1 dX8_lay_12 rfl ?_
    refine Ok.goto (tgt := 17) dX8_lay_13 rfl ?_
    exact Ok.iret dX8_lay_17 rfl (by decide) K
theorem sX8_clearCounts_0 {h : Hp} {Post : Int → Hp → Prop}
    (K : Cl shC mX2_forgetCounts [pR 19] h (fun _ h1 => Post 0 h1)) :
    Cl shC mX8_clearCounts [pR 0] h Post := by
  show Ok shC 0 0 mX8_clearCounts 0 [some (pR 0)] [] h Post
  refine Ok.aload_n (pc' := 1) rfl dX8_clearCounts_0 rfl ?_
  refine Ok.getR (pc' := 4) (k := 1) dX8_clearCounts_1 rfl (shC_0 _) rfl inX8 (by decide) rfl wd_383 rfl ?_
  refine Ok.callV (pc' := 7) (av := []) (rest := []) dX8_clearCounts_4 rfl (by decide) cvX8_clearCounts_156 (shC_19 _) rfl rfl rfl (leb rfl) (leb rfl) K (fun r_ h1 K => ?_)
  show Ok shC 0 0 mX8_clearCounts 7 [some (pR 0)] [] h1 Post
  refine Ok.iconst (pc' := 8) in_0 dX8_clearCounts_7 rfl ?_
  exact Ok.iret dX8_clearCounts_8 rfl (by decide) K
theorem sX8_melt_0 {call : Int} {h : Hp} {Post : Int → Hp → Prop}
    (K : Cl shC mX1_isCallInBody [pR 1, pI call] h (fun r1 h1 => ((¬ r1 = 0) → Cl shC mX1_numberOf [pR 1, pI call] h1 (fun r2 h2 => Cl shC mX1_isMissing [pR 1, pI r2] h2 (fun r3 h3 => ((r3 = 0) → Cl shC mX3_fits [pR 28, pI call] h3 (fun r4 h4 => ((¬ r4 = 0) → Cl1 shC mX4_hold [pR 38, pR 2] h4 (fun _ h5 => Cl shC mX4_keepHeld [pR 38] h5 (fun _ h6 => Cl shC mX3_writeOut [pR 28, pI call] h6 (fun r7 h7 => Post r7 h7)))) ∧ ((r4 = 0) → Post (-3) h4))) ∧ ((¬ r3 = 0) → Post (-2) h3)))) ∧ ((r1 = 0) → Post (-1) h1))) :
    Cl1 shC mX8_melt [pR 0, pI call] h Post := by
  show Ok shC 1 0 mX8_melt 0 [some (pR 0), some (pI call)] [] h Post
  refine Ok.aload_n (pc' := 1) rfl dX8_melt_0 rfl ?_
  refine Ok.getR (pc' := 4) (k := 0) dX8_melt_1 rfl (shC_0 _) rfl inX8 (by decide) rfl wd_382 rfl ?_
  refine Ok.iload_n (pc' := 5) rfl dX8_melt_4 rfl ?_
  refine Ok.callV (pc' := 8) (av := [pI call]) (rest := []) dX8_melt_5 rfl (by decide) cvX8_melt_159 (shC_1 _) rfl rfl rfl (leb rfl) (leb rfl) K (fun r1 h1 K => ?_)
  show Ok shC 1 0 mX8_melt 8 [some (pR 0), some (pI call)] [pI r1] h1 Post
  refine Ok.if_ne (tgt := 13) dX8_melt_8 rfl rfl (fun c1 => ?_) (fun c1 => ?_)
  · replace K := K.1 c1
    refine Ok.aload_n (pc' := 14) rfl dX8_melt_13 rfl ?_
    refine Ok.getR (pc' := 17) (k := 0) dX8_melt_14 rfl (shC_0 _) rfl inX8 (by decide) rfl wd_382 rfl ?_
    refine Ok.aload_n (pc' := 18) rfl dX8_melt_17 rfl ?_
    refine Ok.getR (pc' := 21) (k := 0) dX8_melt_18 rfl (shC_0 _) rfl inX8 (by decide) rfl wd_382 rfl ?_
    refine Ok.iload_n (pc' := 22) rfl dX8_melt_21 rfl ?_
    refine Ok.callV (pc' := 25) (av := [pI call]) (rest := [pR 1]) dX8_melt_22 rfl (by decide) cvX8_melt_104 (shC_1 _) rfl rfl rfl (leb rfl) (leb rfl) K (fun r2 h2 K => ?_)
    show Ok shC 1 0 mX8_melt 25 [some (pR 0), some (pI call)] [pI r2, pR 1] h2 Post
    refine Ok.callV (pc' := 28) (av := [pI r2]) (rest := []) dX8_melt_25 rfl (by decide) cvX8_melt_162 (shC_1 _) rfl rfl rfl (leb rfl) (leb rfl) K (fun r3 h3 K => ?_)
    show Ok shC 1 0 mX8_melt 28 [some (pR 0), some (pI call)] [pI r3] h3 Post
    refine Ok.if_eq (tgt := 34) dX8_melt_28 rfl rfl (fun c2 => ?_) (fun c2 => ?_)
    · replace K := K.1 c2
      refine Ok.aload_n (pc' := 35) rfl dX8_melt_34 rfl ?_
      refine Ok.getR (pc' := 38) (k := 2) dX8_melt_35 rfl (shC_0 _) rfl inX8 (by decide) rfl wd_384 rfl ?_
      refine Ok.iload_n (pc' := 39) rfl dX8_melt_38 rfl ?_
      refine Ok.callV (pc' := 42) (av := [pI call]) (rest := []) dX8_melt_39 rfl (by decide) cvX8_melt_165 (shC_28 _) rfl rfl rfl (leb rfl) (leb rfl) K (fun r4 h4 K => ?_)
      show Ok shC 1 0 mX8_melt 42 [some (pR 0), some (pI call)] [pI r4] h4 Post
      refine Ok.if_ne (tgt := 48) dX8_melt_42 rfl rfl (fun c3 => ?_) (fun c3 => ?_)
      · replace K := K.1 c3
        refine Ok.aload_n (pc' := 49) rfl dX8_melt_48 rfl ?_
        refine Ok.getR (pc' := 52) (k := 4) dX8_melt_49 rfl (shC_0 _) rfl inX8 (by decide) rfl wd_386 rfl ?_
        refine Ok.aload_n (pc' := 53) rfl dX8_melt_52 rfl ?_
        refine Ok.getR (pc' := 56) (k := 0) dX8_melt_53 rfl (shC_0 _) rfl inX8 (by decide) rfl wd_382 rfl ?_
        refine Ok.getRN (pc' := 59) (k := 0) dX8_melt_56 rfl (shC_1 _) rfl inX1 (by decide) rfl wd_192 rfl ?_
        refine Ok.callAl (av := [pR 2]) (rest := []) dX8_melt_59 rfl cvX8_melt_83 (shC_38 _) rfl rfl rfl (leb rfl) (leb rfl) shC_mono (shC_46 _) rfl K (fun r_ h5 K => ?_)
        show Ok shC 1 1 mX8_melt 62 [some (pR 0), some (pI call)] [] h5 Post
        refine Ok.aload_n (pc' := 63) rfl dX8_melt_62 rfl ?_
        refine Ok.getR (pc' := 66) (k := 4) dX8_melt_63 rfl (shC_0 _) rfl inX8 (by decide) rfl wd_386 rfl ?_
        refine Ok.callV (pc' := 69) (av := []) (rest := []) dX8_melt_66 rfl (by decide) cvX8_melt_87 (shC_38 _) rfl rfl rfl (leb rfl) (leb rfl) K (fun r_ h6 K => ?_)
        show Ok shC 1 1 mX8_melt 69 [some (pR 0), some (pI call)] [] h6 Post
        refine Ok.aload_n (pc' := 70) rfl dX8_melt_69 rfl ?_
        refine Ok.getR (pc' := 73) (k := 2) dX8_melt_70 rfl (shC_0 _) rfl inX8 (by decide) rfl wd_384 rfl ?_
        refine Ok.iload_n (pc' := 74) rfl dX8_melt_73 rfl ?_
        refine Ok.callV (pc' := 77) (av := [pI call]) (rest := []) dX8_melt_74 rfl (by decide) cvX8_melt_168 (shC_28 _) rfl rfl rfl (leb rfl) (leb rfl) K (fun r7 h7 K => ?_)
        show Ok shC 1 1 mX8_melt 77 [some (pR 0), some (pI call)] [pI r7] h7 Post
        exact Ok.iret dX8_melt_77 rfl (by decide) K
      · replace K := K.2 c3
        refine Ok.bipush (pc' := 47) ⟨by decide, by decide⟩ dX8_melt_45 rfl ?_
        exact Ok.iret dX8_melt_47 rfl (by decide) K
    · replace K := K.2 c2
      refine Ok.bipush (pc' := 33) ⟨by decide, by decide⟩ dX8_melt_31 rfl ?_
      exact Ok.iret dX8_melt_33 rfl (by decide) K
  · replace K := K.2 c1
    refine Ok.iconst (pc' := 12) in_m1 dX8_melt_11 rfl ?_
    exact Ok.iret dX8_melt_12 rfl (by decide) K
theorem sX8_gain_0 {call : Int} {h : Hp} {Post : Int → Hp → Prop}
    (K : Cl shC mX1_isCallInBody [pR 1, pI call] h (fun r1 h1 => ((r1 = 0) → Post (-1) h1) ∧ ((¬ r1 = 0) → Cl shC mX2_gainOf [pR 19, pI call] h1 (fun r2 h2 => Post r2 h2)))) :
    Cl shC mX8_gain [pR 0, pI call] h Post := by
  show Ok shC 0 0 mX8_gain 0 [some (pR 0), some (pI call)] [] h Post
  refine Ok.aload_n (pc' := 1) rfl dX8_gain_0 rfl ?_
  refine Ok.getR (pc' := 4) (k := 0) dX8_gain_1 rfl (shC_0 _) rfl inX8 (by decide) rfl wd_382 rfl ?_
  refine Ok.iload_n (pc' := 5) rfl dX8_gain_4 rfl ?_
  refine Ok.callV (pc' := 8) (av := [pI call]) (rest := []) dX8_gain_5 rfl (by decide) cvX8_gain_159 (shC_1 _) rfl rfl rfl (leb rfl) (leb rfl) K (fun r1 h1 K => ?_)
  show Ok shC 0 0 mX8_gain 8 [some (pR 0), some (pI call)] [pI r1] h1 Post
  refine Ok.if_eq (tgt := 22) dX8_gain_8 rfl rfl (fun c1 => ?_) (fun c1 => ?_)
  · replace K := K.1 c1
    refine Ok.iconst (pc' := 23) in_m1 dX8_gain_22 rfl ?_
    exact Ok.iret dX8_gain_23 rfl (by decide) K
  · replace K := K.2 c1
    refine Ok.aload_n (pc' := 12) rfl dX8_gain_11 rfl ?_
    refine Ok.getR (pc' := 15) (k := 1) dX8_gain_12 rfl (shC_0 _) rfl inX8 (by decide) rfl wd_383 rfl ?_
    refine Ok.iload_n (pc' := 16) rfl dX8_gain_15 rfl ?_
    refine Ok.callV (pc' := 19) (av := [pI call]) (rest := []) dX8_gain_16 rfl (by decide) cvX8_gain_171 (shC_19 _) rfl rfl rfl (leb rfl) (leb rfl) K (fun r2 h2 K => ?_)
    show Ok shC 0 0 mX8_gain 19 [some (pR 0), some (pI call)] [pI r2] h2 Post
    refine Ok.goto (tgt := 23) dX8_gain_19 rfl ?_
    exact Ok.iret dX8_gain_23 rfl (by decide) K
theorem sX8_weight_0 {call : Int} {h : Hp} {Post : Int → Hp → Prop}
    (K : Cl shC mX1_isCallInBody [pR 1, pI call] h (fun r1 h1 => ((¬ r1 = 0) → Cl shC mX1_numberOf [pR 1, pI call] h1 (fun r2 h2 => Cl shC mX1_isMissing [pR 1, pI r2] h2 (fun r3 h3 => ((r3 = 0) → Cl shC mX3_weightOf [pR 28, pI call] h3 (fun r4 h4 => Post r4 h4)) ∧ ((¬ r3 = 0) → Post (-2) h3)))) ∧ ((r1 = 0) → Post (-1) h1))) :
    Cl shC mX8_weight [pR 0, pI call] h Post := by
  show Ok shC 0 0 mX8_weight 0 [some (pR 0), some (pI call)] [] h Post
  refine Ok.aload_n (pc' := 1) rfl dX8_weight_0 rfl ?_
  refine Ok.getR (pc' := 4) (k := 0) dX8_weight_1 rfl (shC_0 _) rfl inX8 (by decide) rfl wd_382 rfl ?_
  refine Ok.iload_n (pc' := 5) rfl dX8_weight_4 rfl ?_
  refine Ok.callV (pc' := 8) (av := [pI call]) (rest := []) dX8_weight_5 rfl (by decide) cvX8_weight_159 (shC_1 _) rfl rfl rfl (leb rfl) (leb rfl) K (fun r1 h1 K => ?_)
  show Ok shC 0 0 mX8_weight 8 [some (pR 0), some (pI call)] [pI r1] h1 Post
  refine Ok.if_ne (tgt := 13) dX8_weight_8 rfl rfl (fun c1 => ?_) (fun c1 => ?_)
  · replace K := K.1 c1
    refine Ok.aload_n (pc' := 14) rfl dX8_weight_13 rfl ?_
    refine Ok.getR (pc' := 17) (k := 0) dX8_weight_14 rfl (shC_0 _) rfl inX8 (by decide) rfl wd_382 rfl ?_
    refine Ok.aload_n (pc' := 18) rfl dX8_weight_17 rfl ?_
    refine Ok.getR (pc' := 21) (k := 0) dX8_weight_18 rfl (shC_0 _) rfl inX8 (by decide) rfl wd_382 rfl ?_
    refine Ok.iload_n (pc' := 22) rfl dX8_weight_21 rfl ?_
    refine Ok.callV (pc' := 25) (av := [pI call]) (rest := [pR 1]) dX8_weight_22 rfl (by decide) cvX8_weight_104 (shC_1 _) rfl rfl rfl (leb rfl) (leb rfl) K (fun r2 h2 K => ?_)
    show Ok shC 0 0 mX8_weight 25 [some (pR 0), some (pI call)] [pI r2, pR 1] h2 Post
    refine Ok.callV (pc' := 28) (av := [pI r2]) (rest := []) dX8_weight_25 rfl (by decide) cvX8_weight_162 (shC_1 _) rfl rfl rfl (leb rfl) (leb rfl) K (fun r3 h3 K => ?_)
    show Ok shC 0 0 mX8_weight 28 [some (pR 0), some (pI call)] [pI r3] h3 Post
    refine Ok.if_eq (tgt := 36) dX8_weight_28 rfl rfl (fun c2 => ?_) (fun c2 => ?_)
    · replace K := K.1 c2
      refine Ok.aload_n (pc' := 37) rfl dX8_weight_36 rfl ?_
      refine Ok.getR (pc' := 40) (k := 2) dX8_weight_37 rfl (shC_0 _) rfl inX8 (by decide) rfl wd_384 rfl ?_
      refine Ok.iload_n (pc' := 41) rfl dX8_weight_40 rfl ?_
      refine Ok.callV (pc' := 44) (av := [pI call]) (rest := []) dX8_weight_41 rfl (by decide) cvX8_weight_174 (shC_28 _) rfl rfl rfl (leb rfl) (leb rfl) K (fun r4 h4 K => ?_)
      show Ok shC 0 0 mX8_weight 44 [some (pR 0), some (pI call)] [pI r4] h4 Post
      exact Ok.iret dX8_weight_44 rfl (by decide) K
    · replace K := K.2 c2
      refine Ok.bipush (pc' := 33) ⟨by decide, by decide⟩ dX8_weight_31 rfl ?_
      refine Ok.goto (tgt := 44) dX8_weight_33 rfl ?_
      exact Ok.iret dX8_weight_44 rfl (by decide) K
  · replace K := K.2 c1
    refine Ok.iconst (pc' := 12) in_m1 dX8_weight_11 rfl ?_
    exact Ok.iret dX8_weight_12 rfl (by decide) K
theorem sX8_ahead_0 {r : Int} {h : Hp} {Post : Int → Hp → Prop}
    (K : Cl shC mX1_isRoutine [pR 1, pI r] h (fun r1 h1 => ((¬ r1 = 0) → Cl shC mX1_isMissing [pR 1, pI r] h1 (fun r2 h2 => ((r2 = 0) → Cl1 shC mX4_hold [pR 38, pR 2] h2 (fun _ h3 => Cl shC mX1_bodyOf [pR 1, pI r] h3 (fun r4 h4 => Cl shC mX1_sizeOf [pR 1, pI r4] h4 (fun r5 h5 => Cl shC mX7_workAhead [pR 30, pI r] h5 (fun r6 h6 => ((¬ r6 = 0) → Cl shC mX4_keepHeld [pR 38] h6 (fun _ h7 => Cl shC mX1_bodyOf [pR 1, pI r] h7 (fun r8 h8 => Cl shC mX1_sizeOf [pR 1, pI r8] h8 (fun r9 h9 => inR ((r5 - r9)) ∧ (Post (r5 - r9) h9))))) ∧ ((r6 = 0) → Cl shC mX4_bringBackHeld [pR 38, pR 2] h6 (fun _ h10 => Post (-3) h10))))))) ∧ ((¬ r2 = 0) → Post (-2) h2))) ∧ ((r1 = 0) → Post (-1) h1))) :
    Cl1 shC mX8_ahead [pR 0, pI r] h Post := by
  show Ok shC 1 0 mX8_ahead 0 [some (pR 0), some (pI r), none] [] h Post
  refine Ok.aload_n (pc' := 1) rfl dX8_ahead_0 rfl ?_
  refine Ok.getR (pc' := 4) (k := 0) dX8_ahead_1 rfl (shC_0 _) rfl inX8 (by decide) rfl wd_382 rfl ?_
  refine Ok.iload_n (pc' := 5) rfl dX8_ahead_4 rfl ?_
  refine Ok.callV (pc' := 8) (av := [pI r]) (rest := []) dX8_ahead_5 rfl (by decide) cvX8_ahead_63 (shC_1 _) rfl rfl rfl (leb rfl) (leb rfl) K (fun r1 h1 K => ?_)
  show Ok shC 1 0 mX8_ahead 8 [some (pR 0), some (pI r), none] [pI r1] h1 Post
  refine Ok.if_ne (tgt := 13) dX8_ahead_8 rfl rfl (fun c1 => ?_) (fun c1 => ?_)
  · replace K := K.1 c1
    refine Ok.aload_n (pc' := 14) rfl dX8_ahead_13 rfl ?_
    refine Ok.getR (pc' := 17) (k := 0) dX8_ahead_14 rfl (shC_0 _) rfl inX8 (by decide) rfl wd_382 rfl ?_
    refine Ok.iload_n (pc' := 18) rfl dX8_ahead_17 rfl ?_
    refine Ok.callV (pc' := 21) (av := [pI r]) (rest := []) dX8_ahead_18 rfl (by decide) cvX8_ahead_162 (shC_1 _) rfl rfl rfl (leb rfl) (leb rfl) K (fun r2 h2 K => ?_)
    show Ok shC 1 0 mX8_ahead 21 [some (pR 0), some (pI r), none] [pI r2] h2 Post
    refine Ok.if_eq (tgt := 27) dX8_ahead_21 rfl rfl (fun c2 => ?_) (fun c2 => ?_)
    · replace K := K.1 c2
      refine Ok.aload_n (pc' := 28) rfl dX8_ahead_27 rfl ?_
      refine Ok.getR (pc' := 31) (k := 4) dX8_ahead_28 rfl (shC_0 _) rfl inX8 (by decide) rfl wd_386 rfl ?_
      refine Ok.aload_n (pc' := 32) rfl dX8_ahead_31 rfl ?_
      refine Ok.getR (pc' := 35) (k := 0) dX8_ahead_32 rfl (shC_0 _) rfl inX8 (by decide) rfl wd_382 rfl ?_
      refine Ok.getRN (pc' := 38) (k := 0) dX8_ahead_35 rfl (shC_1 _) rfl inX1 (by decide) rfl wd_192 rfl ?_
      refine Ok.callAl (av := [pR 2]) (rest := []) dX8_ahead_38 rfl cvX8_ahead_83 (shC_38 _) rfl rfl rfl (leb rfl) (leb rfl) shC_mono (shC_46 _) rfl K (fun r_ h3 K => ?_)
      show Ok shC 1 1 mX8_ahead 41 [some (pR 0), some (pI r), none] [] h3 Post
      refine Ok.aload_n (pc' := 42) rfl dX8_ahead_41 rfl ?_
      refine Ok.getR (pc' := 45) (k := 0) dX8_ahead_42 rfl (shC_0 _) rfl inX8 (by decide) rfl wd_382 rfl ?_
      refine Ok.aload_n (pc' := 46) rfl dX8_ahead_45 rfl ?_
      refine Ok.getR (pc' := 49) (k := 0) dX8_ahead_46 rfl (shC_0 _) rfl inX8 (by decide) rfl wd_382 rfl ?_
      refine Ok.iload_n (pc' := 50) rfl dX8_ahead_49 rfl ?_
      refine Ok.callV (pc' := 53) (av := [pI r]) (rest := [pR 1]) dX8_ahead_50 rfl (by decide) cvX8_ahead_126 (shC_1 _) rfl rfl rfl (leb rfl) (leb rfl) K (fun r4 h4 K => ?_)
      show Ok shC 1 1 mX8_ahead 53 [some (pR 0), some (pI r), none] [pI r4, pR 1] h4 Post
      refine Ok.callV (pc' := 56) (av := [pI r4]) (rest := []) dX8_ahead_53 rfl (by decide) cvX8_ahead_123 (shC_1 _) rfl rfl rfl (leb rfl) (leb rfl) K (fun r5 h5 K => ?_)
      show Ok shC 1 1 mX8_ahead 56 [some (pR 0), some (pI r), none] [pI r5] h5 Post
      refine Ok.istore_n (pc' := 57) (ls' := [some (pR 0), some (pI r), some (pI r5)]) dX8_ahead_56 rfl (by decide) rfl rfl ?_
      refine Ok.aload_n (pc' := 58) rfl dX8_ahead_57 rfl ?_
      refine Ok.getR (pc' := 61) (k := 3) dX8_ahead_58 rfl (shC_0 _) rfl inX8 (by decide) rfl wd_385 rfl ?_
      refine Ok.iload_n (pc' := 62) rfl dX8_ahead_61 rfl ?_
      refine Ok.callV (pc' := 65) (av := [pI r]) (rest := []) dX8_ahead_62 rfl (by decide) cvX8_ahead_177 (shC_30 _) rfl rfl rfl (leb rfl) (leb rfl) K (fun r6 h6 K => ?_)
      show Ok shC 1 1 mX8_ahead 65 [some (pR 0), some (pI r), some (pI r5)] [pI r6] h6 Post
      refine Ok.if_ne (tgt := 85) dX8_ahead_65 rfl rfl (fun c3 => ?_) (fun c3 => ?_)
      · replace K := K.1 c3
        refine Ok.aload_n (pc' := 86) rfl dX8_ahead_85 rfl ?_
        refine Ok.getR (pc' := 89) (k := 4) dX8_ahead_86 rfl (shC_0 _) rfl inX8 (by decide) rfl wd_386 rfl ?_
        refine Ok.callV (pc' := 92) (av := []) (rest := []) dX8_ahead_89 rfl (by decide) cvX8_ahead_87 (shC_38 _) rfl rfl rfl (leb rfl) (leb rfl) K (fun r_ h7 K => ?_)
        show Ok shC 1 1 mX8_ahead 92 [some (pR 0), some (pI r), some (pI r5)] [] h7 Post
        refine Ok.iload_n (pc' := 93) rfl dX8_ahead_92 rfl ?_
        refine Ok.aload_n (pc' := 94) rfl dX8_ahead_93 rfl ?_
        refine Ok.getR (pc' := 97) (k := 0) dX8_ahead_94 rfl (shC_0 _) rfl inX8 (by decide) rfl wd_382 rfl ?_
        refine Ok.aload_n (pc' := 98) rfl dX8_ahead_97 rfl ?_
        refine Ok.getR (pc' := 101) (k := 0) dX8_ahead_98 rfl (shC_0 _) rfl inX8 (by decide) rfl wd_382 rfl ?_
        refine Ok.iload_n (pc' := 102) rfl dX8_ahead_101 rfl ?_
        refine Ok.callV (pc' := 105) (av := [pI r]) (rest := [pR 1, pI r5]) dX8_ahead_102 rfl (by decide) cvX8_ahead_126 (shC_1 _) rfl rfl rfl (leb rfl) (leb rfl) K (fun r8 h8 K => ?_)
        show Ok shC 1 1 mX8_ahead 105 [some (pR 0), some (pI r), some (pI r5)] [pI r8, pR 1, pI r5] h8 Post
        refine Ok.callV (pc' := 108) (av := [pI r8]) (rest := [pI r5]) dX8_ahead_105 rfl (by decide) cvX8_ahead_123 (shC_1 _) rfl rfl rfl (leb rfl) (leb rfl) K (fun r9 h9 K => ?_)
        show Ok shC 1 1 mX8_ahead 108 [some (pR 0), some (pI r), some (pI r5)] [pI r9, pI r5] h9 Post
        obtain ⟨q4, K⟩ := K
        refine Ok.isub (pc' := 109) dX8_ahead_108 rfl q4 ?_
        exact Ok.iret dX8_ahead_109 rfl (by decide) K
      · replace K := K.2 c3
        refine Ok.aload_n (pc' := 69) rfl dX8_ahead_68 rfl ?_
        refine Ok.getR (pc' := 72) (k := 4) dX8_ahead_69 rfl (shC_0 _) rfl inX8 (by decide) rfl wd_386 rfl ?_
        refine Ok.aload_n (pc' := 73) rfl dX8_ahead_72 rfl ?_
        refine Ok.getR (pc' := 76) (k := 0) dX8_ahead_73 rfl (shC_0 _) rfl inX8 (by decide) rfl wd_382 rfl ?_
        refine Ok.getRN (pc' := 79) (k := 0) dX8_ahead_76 rfl (shC_1 _) rfl inX1 (by decide) rfl wd_192 rfl ?_
        refine Ok.callV (pc' := 82) (av := [pR 2]) (rest := []) dX8_ahead_79 rfl (by decide) cvX8_ahead_180 (shC_38 _) rfl rfl rfl (leb rfl) (leb rfl) K (fun r_ h10 K => ?_)
        show Ok shC 1 1 mX8_ahead 82 [some (pR 0), some (pI r), some (pI r5)] [] h10 Post
        refine Ok.bipush (pc' := 84) ⟨by decide, by decide⟩ dX8_ahead_82 rfl ?_
        exact Ok.iret dX8_ahead_84 rfl (by decide) K
    · replace K := K.2 c2
      refine Ok.bipush (pc' := 26) ⟨by decide, by decide⟩ dX8_ahead_24 rfl ?_
      exact Ok.iret dX8_ahead_26 rfl (by decide) K
  · replace K := K.2 c1
    refine Ok.iconst (pc' := 12) in_m1 dX8_ahead_11 rfl ?_
    exact Ok.iret dX8_ahead_12 rfl (by decide) K
theorem sX8_drop_0 {h : Hp} {Post : Int → Hp → Prop}
    (K : Cl shC mX1_isRoutine [pR 1, pI 0] h (fun r1 h1 => ((¬ r1 = 0) → Cl1 shC mX4_hold [pR 38, pR 2] h1 (fun _ h2 => Cl shC mX4_keepHeld [pR 38] h2 (fun _ h3 => Cl shC mX1_dropUncalled [pR 1] h3 (fun r4 h4 => Post r4 h4)))) ∧ ((r1 = 0) → Post (-2) h1))) :
    Cl1 shC mX8_drop [pR 0] h Post := by
  show Ok shC 1 0 mX8_drop 0 [some (pR 0)] [] h Post
  refine Ok.aload_n (pc' := 1) rfl dX8_drop_0 rfl ?_
  refine Ok.getR (pc' := 4) (k := 0) dX8_drop_1 rfl (shC_0 _) rfl inX8 (by decide) rfl wd_382 rfl ?_
  refine Ok.iconst (pc' := 5) in_0 dX8_drop_4 rfl ?_
  refine Ok.callV (pc' := 8) (av := [pI 0]) (rest := []) dX8_drop_5 rfl (by decide) cvX8_drop_63 (shC_1 _) rfl rfl rfl (leb rfl) (leb rfl) K (fun r1 h1 K => ?_)
  show Ok shC 1 0 mX8_drop 8 [some (pR 0)] [pI r1] h1 Post
  refine Ok.if_ne (tgt := 14) dX8_drop_8 rfl rfl (fun c1 => ?_) (fun c1 => ?_)
  · replace K := K.1 c1
    refine Ok.aload_n (pc' := 15) rfl dX8_drop_14 rfl ?_
    refine Ok.getR (pc' := 18) (k := 4) dX8_drop_15 rfl (shC_0 _) rfl inX8 (by decide) rfl wd_386 rfl ?_
    refine Ok.aload_n (pc' := 19) rfl dX8_drop_18 rfl ?_
    refine Ok.getR (pc' := 22) (k := 0) dX8_drop_19 rfl (shC_0 _) rfl inX8 (by decide) rfl wd_382 rfl ?_
    refine Ok.getRN (pc' := 25) (k := 0) dX8_drop_22 rfl (shC_1 _) rfl inX1 (by decide) rfl wd_192 rfl ?_
    refine Ok.callAl (av := [pR 2]) (rest := []) dX8_drop_25 rfl cvX8_drop_83 (shC_38 _) rfl rfl rfl (leb rfl) (leb rfl) shC_mono (shC_46 _) rfl K (fun r_ h2 K => ?_)
    show Ok shC 1 1 mX8_drop 28 [some (pR 0)] [] h2 Post
    refine Ok.aload_n (pc' := 29) rfl dX8_drop_28 rfl ?_
    refine Ok.getR (pc' := 32) (k := 4) dX8_drop_29 rfl (shC_0 _) rfl inX8 (by decide) rfl wd_386 rfl ?_
    refine Ok.callV (pc' := 35) (av := []) (rest := []) dX8_drop_32 rfl (by decide) cvX8_drop_87 (shC_38 _) rfl rfl rfl (leb rfl) (leb rfl) K (fun r_ h3 K => ?_)
    show Ok shC 1 1 mX8_drop 35 [some (pR 0)] [] h3 Post
    refine Ok.aload_n (pc' := 36) rfl dX8_drop_35 rfl ?_
    refine Ok.getR (pc' := 39) (k := 0) dX8_drop_36 rfl (shC_0 _) rfl inX8 (by decide) rfl wd_382 rfl ?_
    refine Ok.callV (pc' := 42) (av := []) (rest := []) dX8_drop_39 rfl (by decide) cvX8_drop_183 (shC_1 _) rfl rfl rfl (leb rfl) (leb rfl) K (fun r4 h4 K => ?_)
    show Ok shC 1 1 mX8_drop 42 [some (pR 0)] [pI r4] h4 Post
    exact Ok.iret dX8_drop_42 rfl (by decide) K
  · replace K := K.2 c1
    refine Ok.bipush (pc' := 13) ⟨by decide, by decide⟩ dX8_drop_11 rfl ?_
    exact Ok.iret dX8_drop_13 rfl (by decide) K
theorem sX8_undo_0 {h : Hp} {Post : Int → Hp → Prop}
    (K : Cl shC mX4_takeBack [pR 38, pR 2] h (fun r1 h1 => ((r1 = 0) → Post (-2) h1) ∧ ((¬ r1 = 0) → Post 1 h1))) :
    Cl shC mX8_undo [pR 0] h Post := by
  show Ok shC 0 0 mX8_undo 0 [some (pR 0)] [] h Post
  refine Ok.aload_n (pc' := 1) rfl dX8_undo_0 rfl ?_
  refine Ok.getR (pc' := 4) (k := 4) dX8_undo_1 rfl (shC_0 _) rfl inX8 (by decide) rfl wd_386 rfl ?_
  refine Ok.aload_n (pc' := 5) rfl dX8_undo_4 rfl ?_
  refine Ok.getR (pc' := 8) (k := 0) dX8_undo_5 rfl (shC_0 _) rfl inX8 (by decide) rfl wd_382 rfl ?_
  refine Ok.getRN (pc' := 11) (k := 0) dX8_undo_8 rfl (shC_1 _) rfl inX1 (by decide) rfl wd_192 rfl ?_
  refine Ok.callV (pc' := 14) (av := [pR 2]) (rest := []) dX8_undo_11 rfl (by decide) cvX8_undo_187 (shC_38 _) rfl rfl rfl (leb rfl) (leb rfl) K (fun r1 h1 K => ?_)
  show Ok shC 0 0 mX8_undo 14 [some (pR 0)] [pI r1] h1 Post
  refine Ok.if_eq (tgt := 21) dX8_undo_14 rfl rfl (fun c1 => ?_) (fun c1 => ?_)
  · replace K := K.1 c1
    refine Ok.bipush (pc' := 23) ⟨by decide, by decide⟩ dX8_undo_21 rfl ?_
    exact Ok.iret dX8_undo_23 rfl (by decide) K
  · replace K := K.2 c1
    refine Ok.iconst (pc' := 18) in_1 dX8_undo_17 rfl ?_
    refine Ok.goto (tgt := 23) dX8_undo_18 rfl ?_
    exact Ok.iret dX8_undo_23 rfl (by decide) K
theorem sX8_layout_0 {r budget : Int} {h : Hp} {Post : Int → Hp → Prop}
    (K : Cl shC mX8_refusalOfChoice [pR 0, pI r, pI budget] h (fun r1 h1 => ((r1 = 0) → Cl shC mX0_layOut [pR 40, pI r, pI budget] h1 (fun r2 h2 => Post r2 h2)) ∧ ((¬ r1 = 0) → Post r1 h1))) :
    Cl shC mX8_layout [pR 0, pI r, pI budget] h Post := by
  show Ok shC 0 0 mX8_layout 0 [some (pR 0), some (pI r), some (pI budget), none] [] h Post
  refine Ok.aload_n (pc' := 1) rfl dX8_layout_0 rfl ?_
  refine Ok.iload_n (pc' := 2) rfl dX8_layout_1 rfl ?_
  refine Ok.iload_n (pc' := 3) rfl dX8_layout_2 rfl ?_
  refine Ok.callV (pc' := 6) (av := [pI r, pI budget]) (rest := []) dX8_layout_3 rfl (by decide) cvX8_layout_191 (shC_0 _) rfl rfl rfl (leb rfl) (leb rfl) K (fun r1 h1 K => ?_)
  show Ok shC 0 0 mX8_layout 6 [some (pR 0), some (pI r), some (pI budget), none] [pI r1] h1 Post
  refine Ok.istore_n (pc' := 7) (ls' := [some (pR 0), some (pI r), some (pI budget), some (pI r1)]) dX8_layout_6 rfl (by decide) rfl rfl ?_
  refine Ok.iload_n (pc' := 8) rfl dX8_layout_7 rfl ?_
  refine Ok.if_eq (tgt := 15) dX8_layout_8 rfl rfl (fun c1 => ?_) (fun c1 => ?_)
  · replace K := K.1 c1
    refine Ok.aload_n (pc' := 16) rfl dX8_layout_15 rfl ?_
    refine Ok.getR (pc' := 19) (k := 5) dX8_layout_16 rfl (shC_0 _) rfl inX8 (by decide) rfl wd_387 rfl ?_
    refine Ok.iload_n (pc' := 20) rfl dX8_layout_19 rfl ?_
    refine Ok.iload_n (pc' := 21) rfl dX8_layout_20 rfl ?_
    refine Ok.callV (pc' := 24) (av := [pI r, pI budget]) (rest := []) dX8_layout_21 rfl (by decide) cvX8_layout_194 (shC_40 _) rfl rfl rfl (leb rfl) (leb rfl) K (fun r2 h2 K => ?_)
    show Ok shC 0 0 mX8_layout 24 [some (pR 0), some (pI r), some (pI budget), some (pI r1)] [pI r2] h2 Post
    exact Ok.iret dX8_layout_24 rfl (by decide) K
  · replace K := K.2 c1
    refine Ok.iload_n (pc' := 12) rfl dX8_layout_11 rfl ?_
    refine Ok.goto (tgt := 24) dX8_layout_12 rfl ?_
    exact Ok.iret dX8_layout_24 rfl (by decide) K
theorem sX8_laid_0 {what : Int} {h : Hp} {Post : Int → Hp → Prop}
    (K : ((0 ≤ what) → Cl shC mX0_hasLaidOut [pR 40] h (fun r1 h1 => ((r1 = 0) → Post (-2) h1) ∧ ((¬ r1 = 0) → Cl shC mX0_latest [pR 40, pI what] h1 (fun r2 h2 => Post r2 h2)))) ∧ ((¬ 0 ≤ what) → Post (-1) h)) :
    Cl shC mX8_laid [pR 0, pI what] h Post := by
  show Ok shC 0 0 mX8_laid 0 [some (pR 0), some (pI what)] [] h Post
  refine Ok.iload_n (pc' := 1) rfl dX8_laid_0 rfl ?_
  refine Ok.if_ge (tgt := 6) dX8_laid_1 rfl rfl (fun c1 => ?_) (fun c1 => ?_)
  · replace K := K.1 c1
    refine Ok.aload_n (pc' := 7) rfl dX8_laid_6 rfl ?_
    refine Ok.getR (pc' := 10) (k := 5) dX8_laid_7 rfl (shC_0 _) rfl inX8 (by decide) rfl wd_387 rfl ?_
    refine Ok.callV (pc' := 13) (av := []) (rest := []) dX8_laid_10 rfl (by decide) cvX8_laid_197 (shC_40 _) rfl rfl rfl (leb rfl) (leb rfl) K (fun r1 h1 K => ?_)
    show Ok shC 0 0 mX8_laid 13 [some (pR 0), some (pI what)] [pI r1] h1 Post
    refine Ok.if_eq (tgt := 27) dX8_laid_13 rfl rfl (fun c2 => ?_) (fun c2 => ?_)
    · replace K := K.1 c2
      refine Ok.bipush (pc' := 29) ⟨by decide, by decide⟩ dX8_laid_27 rfl ?_
      exact Ok.iret dX8_laid_29 rfl (by decide) K
    · replace K := K.2 c2
      refine Ok.aload_n (pc' := 17) rfl dX8_laid_16 rfl ?_
      refine Ok.getR (pc' := 20) (k := 5) dX8_laid_17 rfl (shC_0 _) rfl inX8 (by decide) rfl wd_387 rfl ?_
      refine Ok.iload_n (pc' := 21) rfl dX8_laid_20 rfl ?_
      refine Ok.callV (pc' := 24) (av := [pI what]) (rest := []) dX8_laid_21 rfl (by decide) cvX8_laid_200 (shC_40 _) rfl rfl rfl (leb rfl) (leb rfl) K (fun r2 h2 K => ?_)
      show Ok shC 0 0 mX8_laid 24 [some (pR 0), some (pI what)] [pI r2] h2 Post
      refine Ok.goto (tgt := 29) dX8_laid_24 rfl ?_
      exact Ok.iret dX8_laid_29 rfl (by decide) K
  · replace K := K.2 c1
    refine Ok.iconst (pc' := 5) in_m1 dX8_laid_4 rfl ?_
    exact Ok.iret dX8_laid_5 rfl (by decide) K
theorem sX8_next_0 {r budget : Int} {h : Hp} {Post : Int → Hp → Prop}
    (K : Cl shC mX8_refusalOfChoice [pR 0, pI r, pI budget] h (fun r1 h1 => ((r1 = 0) → Cl shC mX0_bestNext [pR 40, pI r, pI budget] h1 (fun r2 h2 => Post r2 h2)) ∧ ((¬ r1 = 0) → Post r1 h1))) :
    Cl shC mX8_next [pR 0, pI r, pI budget] h Post := by
  show Ok shC 0 0 mX8_next 0 [some (pR 0), some (pI r), some (pI budget), none] [] h Post
  refine Ok.aload_n (pc' := 1) rfl dX8_next_0 rfl ?_
  refine Ok.iload_n (pc' := 2) rfl dX8_next_1 rfl ?_
  refine Ok.iload_n (pc' := 3) rfl dX8_next_2 rfl ?_
  refine Ok.callV (pc' := 6) (av := [pI r, pI budget]) (rest := []) dX8_next_3 rfl (by decide) cvX8_next_191 (shC_0 _) rfl rfl rfl (leb rfl) (leb rfl) K (fun r1 h1 K => ?_)
  show Ok shC 0 0 mX8_next 6 [some (pR 0), some (pI r), some (pI budget), none] [pI r1] h1 Post
  refine Ok.istore_n (pc' := 7) (ls' := [some (pR 0), some (pI r), some (pI budget), some (pI r1)]) dX8_next_6 rfl (by decide) rfl rfl ?_
  refine Ok.iload_n (pc' := 8) rfl dX8_next_7 rfl ?_
  refine Ok.if_eq (tgt := 15) dX8_next_8 rfl rfl (fun c1 => ?_) (fun c1 => ?_)
  · replace K := K.1 c1
    refine Ok.aload_n (pc' := 16) rfl dX8_next_15 rfl ?_
    refine Ok.getR (pc' := 19) (k := 5) dX8_next_16 rfl (shC_0 _) rfl inX8 (by decide) rfl wd_387 rfl ?_
    refine Ok.iload_n (pc' := 20) rfl dX8_next_19 rfl ?_
    refine Ok.iload_n (pc' := 21) rfl dX8_next_20 rfl ?_
    refine Ok.callV (pc' := 24) (av := [pI r, pI budget]) (rest := []) dX8_next_21 rfl (by decide) cvX8_next_201 (shC_40 _) rfl rfl rfl (leb rfl) (leb rfl) K (fun r2 h2 K => ?_)
    show Ok shC 0 0 mX8_next 24 [some (pR 0), some (pI r), some (pI budget), some (pI r1)] [pI r2] h2 Post
    exact Ok.iret dX8_next_24 rfl (by decide) K
  · replace K := K.2 c1
    refine Ok.iload_n (pc' := 12) rfl dX8_next_11 rfl ?_
    refine Ok.goto (tgt := 24) dX8_next_12 rfl ?_
    exact Ok.iret dX8_next_24 rfl (by decide) K
theorem sX8_count_0 {what : Int} {h : Hp} {Post : Int → Hp → Prop}
    (K : ((what = 0) → Post (h.2.1 2 6) h) ∧ ((what = 1) → Cl shC mX1_goneSteps [pR 1] h (fun r1 h1 => Post r1 h1)) ∧ ((what = 2) → Cl shC mX1_looseSteps [pR 1] h (fun r2 h2 => Post r2 h2)) ∧ ((what = 3) → Post (h.2.1 2 7) h) ∧ ((what = 4) → Cl shC mX1_missingRoutines [pR 1] h (fun r3 h3 => Post r3 h3)) ∧ ((what = 5) → Post (h.2.1 38 2) h) ∧ ((what < 0 ∨ 5 < what) → Post (-1) h)) :
    Cl shC mX8_count [pR 0, pI what] h Post := by
  show Ok shC 0 0 mX8_count 0 [some (pR 0), some (pI what)] [] h Post
  refine Ok.iload_n (pc' := 1) rfl dX8_count_0 rfl ?_
  obtain ⟨Kc1_0, Kc1_1, Kc1_2, Kc1_3, Kc1_4, Kc1_5, Kc1_6⟩ := K
  refine Ok.tsw dX8_count_1 rfl ⟨by decide, by decide⟩ (fun tgt ht => ?_)
  have hx : (what = 0) ∨ (what = 1) ∨ (what = 2) ∨ (what = 3) ∨ (what = 4) ∨ (what = 5) ∨ (what < 0 ∨ 5 < what) := by omega
  rcases hx with c1 | c1 | c1 | c1 | c1 | c1 | c1
  · obtain rfl : 40 = tgt := by rw [c1] at ht; exact Int.ofNat.inj ht
    have K := Kc1_0 c1
    refine Ok.aload_n (pc' := 41) rfl dX8_count_40 rfl ?_
    refine Ok.getR (pc' := 44) (k := 0) dX8_count_41 rfl (shC_0 _) rfl inX8 (by decide) rfl wd_382 rfl ?_
    refine Ok.getRN (pc' := 47) (k := 0) dX8_count_44 rfl (shC_1 _) rfl inX1 (by decide) rfl wd_192 rfl ?_
    refine Ok.getIN (pc' := 50) (z := h.2.1 2 6) (k := 6) dX8_count_47 rfl (shC_2 _) rfl inX5 (by decide) rfl rfl wd_135 rfl ?_
    exact Ok.iret dX8_count_50 rfl (by decide) K
  · obtain rfl : 51 = tgt := by rw [c1] at ht; exact Int.ofNat.inj ht
    have K := Kc1_1 c1
    refine Ok.aload_n (pc' := 52) rfl dX8_count_51 rfl ?_
    refine Ok.getR (pc' := 55) (k := 0) dX8_count_52 rfl (shC_0 _) rfl inX8 (by decide) rfl wd_382 rfl ?_
    refine Ok.callV (pc' := 58) (av := []) (rest := []) dX8_count_55 rfl (by decide) cvX8_count_210 (shC_1 _) rfl rfl rfl (leb rfl) (leb rfl) K (fun r1 h1 K => ?_)
    show Ok shC 0 0 mX8_count 58 [some (pR 0), some (pI what)] [pI r1] h1 Post
    exact Ok.iret dX8_count_58 rfl (by decide) K
  · obtain rfl : 59 = tgt := by rw [c1] at ht; exact Int.ofNat.inj ht
    have K := Kc1_2 c1
    refine Ok.aload_n (pc' := 60) rfl dX8_count_59 rfl ?_
    refine Ok.getR (pc' := 63) (k := 0) dX8_count_60 rfl (shC_0 _) rfl inX8 (by decide) rfl wd_382 rfl ?_
    refine Ok.callV (pc' := 66) (av := []) (rest := []) dX8_count_63 rfl (by decide) cvX8_count_213 (shC_1 _) rfl rfl rfl (leb rfl) (leb rfl) K (fun r2 h2 K => ?_)
    show Ok shC 0 0 mX8_count 66 [some (pR 0), some (pI what)] [pI r2] h2 Post
    exact Ok.iret dX8_count_66 rfl (by decide) K
  · obtain rfl : 67 = tgt := by rw [c1] at ht; exact Int.ofNat.inj ht
    have K := Kc1_3 c1
    refine Ok.aload_n (pc' := 68) rfl dX8_count_67 rfl ?_
    refine Ok.getR (pc' := 71) (k := 0) dX8_count_68 rfl (shC_0 _) rfl inX8 (by decide) rfl wd_382 rfl ?_
    refine Ok.getRN (pc' := 74) (k := 0) dX8_count_71 rfl (shC_1 _) rfl inX1 (by decide) rfl wd_192 rfl ?_
    refine Ok.getIN (pc' := 77) (z := h.2.1 2 7) (k := 7) dX8_count_74 rfl (shC_2 _) rfl inX5 (by decide) rfl rfl wd_138 rfl ?_
    exact Ok.iret dX8_count_77 rfl (by decide) K
  · obtain rfl : 78 = tgt := by rw [c1] at ht; exact Int.ofNat.inj ht
    have K := Kc1_4 c1
    refine Ok.aload_n (pc' := 79) rfl dX8_count_78 rfl ?_
    refine Ok.getR (pc' := 82) (k := 0) dX8_count_79 rfl (shC_0 _) rfl inX8 (by decide) rfl wd_382 rfl ?_
    refine Ok.callV (pc' := 85) (av := []) (rest := []) dX8_count_82 rfl (by decide) cvX8_count_219 (shC_1 _) rfl rfl rfl (leb rfl) (leb rfl) K (fun r3 h3 K => ?_)
    show Ok shC 0 0 mX8_count 85 [some (pR 0), some (pI what)] [pI r3] h3 Post
    exact Ok.iret dX8_count_85 rfl (by decide) K
  · obtain rfl : 86 = tgt := by rw [c1] at ht; exact Int.ofNat.inj ht
    have K := Kc1_5 c1
    refine Ok.aload_n (pc' := 87) rfl dX8_count_86 rfl ?_
    refine Ok.getR (pc' := 90) (k := 4) dX8_count_87 rfl (shC_0 _) rfl inX8 (by decide) rfl wd_386 rfl ?_
    refine Ok.getIN (pc' := 93) (z := h.2.1 38 2) (k := 2) dX8_count_90 rfl (shC_38 _) rfl inX4 (by decide) rfl rfl wd_328 rfl ?_
    exact Ok.iret dX8_count_93 rfl (by decide) K
  · obtain rfl : 94 = tgt := by
      rcases c1 with q | q
      · rw [swT_out (Or.inl q)] at ht; exact Int.ofNat.inj ht
      · rw [swT_out (Or.inr q)] at ht; exact Int.ofNat.inj ht
    have K := Kc1_6 c1
    refine Ok.iconst (pc' := 95) in_m1 dX8_count_94 rfl ?_
    exact Ok.iret dX8_count_95 rfl (by decide) K
theorem sX8_tellStep_0 {kind number parts x y z : Int} {h : Hp} {Post : Int → Hp → Prop}
    (K : ((parts ≤ 0) → Ok shC 0 0 mX8_tellStep 21 [some (pR 0), some (pI kind), some (pI number), some (pI parts), some (pI x), some (pI y), some (pI z), none, none, none, none, none] [pI 0] h Post) ∧ ((¬ parts ≤ 0) → Cl shC mX1_isLoose [pR 1, pI x] h (fun r1 h1 => ((¬ r1 = 0) → Ok shC 0 0 mX8_tellStep 21 [some (pR 0), some (pI kind), some (pI number), some (pI parts), some (pI x), some (pI y), some (pI z), none, none, none, none, none] [pI 0] h1 Post) ∧ ((r1 = 0) → Ok shC 0 0 mX8_tellStep 21 [some (pR 0), some (pI kind), some (pI number), some (pI parts), some (pI x), some (pI y), some (pI z), none, none, none, none, none] [pI 1] h1 Post)))) :
    Cl shC mX8_tellStep [pR 0, pI kind, pI number, pI parts, pI x, pI y, pI z] h Post := by
  show Ok shC 0 0 mX8_tellStep 0 [some (pR 0), some (pI kind), some (pI number), some (pI parts), some (pI x), some (pI y), some (pI z), none, none, none, none, none] [] h Post
  refine Ok.iload_n (pc' := 1) rfl dX8_tellStep_0 rfl ?_
  refine Ok.if_le (tgt := 20) dX8_tellStep_1 rfl rfl (fun c1 => ?_) (fun c1 => ?_)
  · replace K := K.1 c1
    refine Ok.iconst (pc' := 21) in_0 dX8_tellStep_20 rfl ?_
    exact K
  · replace K := K.2 c1
    refine Ok.aload_n (pc' := 5) rfl dX8_tellStep_4 rfl ?_
    refine Ok.getR (pc' := 8) (k := 0) dX8_tellStep_5 rfl (shC_0 _) rfl inX8 (by decide) rfl wd_382 rfl ?_
    refine Ok.iload (pc' := 10) rfl dX8_tellStep_8 rfl ?_
    refine Ok.callV (pc' := 13) (av := [pI x]) (rest := []) dX8_tellStep_10 rfl (by decide) cvX8_tellStep_76 (shC_1 _) rfl rfl rfl (leb rfl) (leb rfl) K (fun r1 h1 K => ?_)
    show Ok shC 0 0 mX8_tellStep 13 [some (pR 0), some (pI kind), some (pI number), some (pI parts), some (pI x), some (pI y), some (pI z), none, none, none, none, none] [pI r1] h1 Post
    refine Ok.if_ne (tgt := 20) dX8_tellStep_13 rfl rfl (fun c2 => ?_) (fun c2 => ?_)
    · replace K := K.1 c2
      refine Ok.iconst (pc' := 21) in_0 dX8_tellStep_20 rfl ?_
      exact K
    · replace K := K.2 c2
      refine Ok.iconst (pc' := 17) in_1 dX8_tellStep_16 rfl ?_
      refine Ok.goto (tgt := 21) dX8_tellStep_17 rfl ?_
      exact K
theorem sX8_tellStep_21 {kind number parts x y z t0 : Int} {h : Hp} {Post : Int → Hp → Prop}
    (K : ((parts ≤ 1) → Ok shC 0 0 mX8_tellStep 52 [some (pR 0), some (pI kind), some (pI number), some (pI parts), some (pI x), some (pI y), some (pI z), some (pI t0), none, none, none, none] [pI 0] h Post) ∧ ((¬ parts ≤ 1) → Cl shC mX1_isLoose [pR 1, pI y] h (fun r1 h1 => ((r1 = 0) → Ok shC 0 0 mX8_tellStep 52 [some (pR 0), some (pI kind), some (pI number), some (pI parts), some (pI x), some (pI y), some (pI z), some (pI t0), none, none, none, none] [pI 1] h1 Post) ∧ ((¬ r1 = 0) → ((¬ y = x) → Ok shC 0 0 mX8_tellStep 52 [some (pR 0), some (pI kind), some (pI number), some (pI parts), some (pI x), some (pI y), some (pI z), some (pI t0), none, none, none, none] [pI 0] h1 Post) ∧ ((y = x) → Ok shC 0 0 mX8_tellStep 52 [some (pR 0), some (pI kind), some (pI number), some (pI parts), some (pI x), some (pI y), some (pI z), some (pI t0), none, none, none, none] [pI 1] h1 Post))))) :
    Ok shC 0 0 mX8_tellStep 21 [some (pR 0), some (pI kind), some (pI number), some (pI parts), some (pI x), some (pI y), some (pI z), none, none, none, none, none] [pI t0] h Post := by
  show Ok shC 0 0 mX8_tellStep 21 [some (pR 0), some (pI kind), some (pI number), some (pI parts), some (pI x), some (pI y), some (pI z), none, none, none, none, none] [pI t0] h Post
  refine Ok.istore (pc' := 23) (ls' := [some (pR 0), some (pI kind), some (pI number), some (pI parts), some (pI x), some (pI y), some (pI z), some (pI t0), none, none, none, none]) dX8_tellStep_21 rfl (by decide) rfl rfl ?_
  refine Ok.iload_n (pc' := 24) rfl dX8_tellStep_23 rfl ?_
  refine Ok.iconst (pc' := 25) in_1 dX8_tellStep_24 rfl ?_
  refine Ok.icmp_le (tgt := 51) dX8_tellStep_25 rfl rfl (fun c1 => ?_) (fun c1 => ?_)
  · replace K := K.1 c1
    refine Ok.iconst (pc' := 52) in_0 dX8_tellStep_51 rfl ?_
    exact K
  · replace K := K.2 c1
    refine Ok.aload_n (pc' := 29) rfl dX8_tellStep_28 rfl ?_
    refine Ok.getR (pc' := 32) (k := 0) dX8_tellStep_29 rfl (shC_0 _) rfl inX8 (by decide) rfl wd_382 rfl ?_
    refine Ok.iload (pc' := 34) rfl dX8_tellStep_32 rfl ?_
    refine Ok.callV (pc' := 37) (av := [pI y]) (rest := []) dX8_tellStep_34 rfl (by decide) cvX8_tellStep_76 (shC_1 _) rfl rfl rfl (leb rfl) (leb rfl) K (fun r1 h1 K => ?_)
    show Ok shC 0 0 mX8_tellStep 37 [some (pR 0), some (pI kind), some (pI number), some (pI parts), some (pI x), some (pI y), some (pI z), some (pI t0), none, none, none, none] [pI r1] h1 Post
    refine Ok.if_eq (tgt := 47) dX8_tellStep_37 rfl rfl (fun c2 => ?_) (fun c2 => ?_)
    · replace K := K.1 c2
      refine Ok.iconst (pc' := 48) in_1 dX8_tellStep_47 rfl ?_
      refine Ok.goto (tgt := 52) dX8_tellStep_48 rfl ?_
      exact K
    · replace K := K.2 c2
      refine Ok.iload (pc' := 42) rfl dX8_tellStep_40 rfl ?_
      refine Ok.iload (pc' := 44) rfl dX8_tellStep_42 rfl ?_
      refine Ok.icmp_ne (tgt := 51) dX8_tellStep_44 rfl rfl (fun c3 => ?_) (fun c3 => ?_)
      · replace K := K.1 c3
        refine Ok.iconst (pc' := 52) in_0 dX8_tellStep_51 rfl ?_
        exact K
      · replace K := K.2 c3
        refine Ok.iconst (pc' := 48) in_1 dX8_tellStep_47 rfl ?_
        refine Ok.goto (tgt := 52) dX8_tellStep_48 rfl ?_
        exact K
theorem sX8_tellStep_52 {kind number parts x y z v7 t0 : Int} {h : Hp} {Post : Int → Hp → Prop}
    (K : ((parts ≤ 2) → Ok shC 0 0 mX8_tellStep 90 [some (pR 0), some (pI kind), some (pI number), some (pI parts), some (pI x), some (pI y), some (pI z), some (pI v7), some (pI t0), none, none, none] [pI 0] h Post) ∧ ((¬ parts ≤ 2) → Cl shC mX1_isLoose [pR 1, pI z] h (fun r1 h1 => ((r1 = 0) → Ok shC 0 0 mX8_tellStep 90 [some (pR 0), some (pI kind), some (pI number), some (pI parts), some (pI x), some (pI y), some (pI z), some (pI v7), some (pI t0), none, none, none] [pI 1] h1 Post) ∧ ((¬ r1 = 0) → ((z = x) → Ok shC 0 0 mX8_tellStep 90 [some (pR 0), some (pI kind), some (pI number), some (pI parts), some (pI x), some (pI y), some (pI z), some (pI v7), some (pI t0), none, none, none] [pI 1] h1 Post) ∧ ((¬ z = x) → ((¬ z = y) → Ok shC 0 0 mX8_tellStep 90 [some (pR 0), some (pI kind), some (pI number), some (pI parts), some (pI x), some (pI y), some (pI z), some (pI v7), some (pI t0), none, none, none] [pI 0] h1 Post) ∧ ((z = y) → Ok shC 0 0 mX8_tellStep 90 [some (pR 0), some (pI kind), some (pI number), some (pI parts), some (pI x), some (pI y), some (pI z), some (pI v7), some (pI t0), none, none, none] [pI 1] h1 Post)))))) :
    Ok shC 0 0 mX8_tellStep 52 [some (pR 0), some (pI kind), some (pI number), some (pI parts), some (pI x), some (pI y), some (pI z), some (pI v7), none, none, none, none] [pI t0] h Post := by
  show Ok shC 0 0 mX8_tellStep 52 [some (pR 0), some (pI kind), some (pI number), some (pI parts), some (pI x), some (pI y), some (pI z), some (pI v7), none, none, none, none] [pI t0] h Post
  refine Ok.istore (pc' := 54) (ls' := [some (pR 0), some (pI kind), some (pI number), some (pI parts), some (pI x), some (pI y), some (pI z), some (pI v7), some (pI t0), none, none, none]) dX8_tellStep_52 rfl (by decide) rfl rfl ?_
  refine Ok.iload_n (pc' := 55) rfl dX8_tellStep_54 rfl ?_
  refine Ok.iconst (pc' := 56) in_2 dX8_tellStep_55 rfl ?_
  refine Ok.icmp_le (tgt := 89) dX8_tellStep_56 rfl rfl (fun c1 => ?_) (fun c1 => ?_)
  · replace K := K.1 c1
    refine Ok.iconst (pc' := 90) in_0 dX8_tellStep_89 rfl ?_
    exact K
  · replace K := K.2 c1
    refine Ok.aload_n (pc' := 60) rfl dX8_tellStep_59 rfl ?_
    refine Ok.getR (pc' := 63) (k := 0) dX8_tellStep_60 rfl (shC_0 _) rfl inX8 (by decide) rfl wd_382 rfl ?_
    refine Ok.iload (pc' := 65) rfl dX8_tellStep_63 rfl ?_
    refine Ok.callV (pc' := 68) (av := [pI z]) (rest := []) dX8_tellStep_65 rfl (by decide) cvX8_tellStep_76 (shC_1 _) rfl rfl rfl (leb rfl) (leb rfl) K (fun r1 h1 K => ?_)
    show Ok shC 0 0 mX8_tellStep 68 [some (pR 0), some (pI kind), some (pI number), some (pI parts), some (pI x), some (pI y), some (pI z), some (pI v7), some (pI t0), none, none, none] [pI r1] h1 Post
    refine Ok.if_eq (tgt := 85) dX8_tellStep_68 rfl rfl (fun c2 => ?_) (fun c2 => ?_)
    · replace K := K.1 c2
      refine Ok.iconst (pc' := 86) in_1 dX8_tellStep_85 rfl ?_
      refine Ok.goto (tgt := 90) dX8_tellStep_86 rfl ?_
      exact K
    · replace K := K.2 c2
      refine Ok.iload (pc' := 73) rfl dX8_tellStep_71 rfl ?_
      refine Ok.iload (pc' := 75) rfl dX8_tellStep_73 rfl ?_
      refine Ok.icmp_eq (tgt := 85) dX8_tellStep_75 rfl rfl (fun c3 => ?_) (fun c3 => ?_)
      · replace K := K.1 c3
        refine Ok.iconst (pc' := 86) in_1 dX8_tellStep_85 rfl ?_
        refine Ok.goto (tgt := 90) dX8_tellStep_86 rfl ?_
        exact K
      · replace K := K.2 c3
        refine Ok.iload (pc' := 80) rfl dX8_tellStep_78 rfl ?_
        refine Ok.iload (pc' := 82) rfl dX8_tellStep_80 rfl ?_
        refine Ok.icmp_ne (tgt := 89) dX8_tellStep_82 rfl rfl (fun c4 => ?_) (fun c4 => ?_)
        · replace K := K.1 c4
          refine Ok.iconst (pc' := 90) in_0 dX8_tellStep_89 rfl ?_
          exact K
        · replace K := K.2 c4
          refine Ok.iconst (pc' := 86) in_1 dX8_tellStep_85 rfl ?_
          refine Ok.goto (tgt := 90) dX8_tellStep_86 rfl ?_
          exact K
theorem sX8_tellStep_90 {kind number parts x y z v7 v8 t0 : Int} {h : Hp} {Post : Int → Hp → Prop}
    (K : ((¬ v7 = 0) → Ok shC 0 0 mX8_tellStep 107 [none, none, none, none, none, none, none, none, none, none, none, none] [] h Post) ∧ ((v7 = 0) → ((¬ v8 = 0) → Ok shC 0 0 mX8_tellStep 107 [none, none, none, none, none, none, none, none, none, none, none, none] [] h Post) ∧ ((v8 = 0) → ((t0 = 0) → ((parts ≤ 0) → Ok shC 0 0 mX8_tellStep 126 [some (pR 0), some (pI kind), some (pI number), some (pI parts), some (pI x), some (pI y), some (pI z), none, none, none, none, none] [pI 0] h Post) ∧ ((¬ parts ≤ 0) → Cl shC mX1_highOf [pR 1, pI x] h (fun r1 h1 => Ok shC 0 0 mX8_tellStep 126 [some (pR 0), some (pI kind), some (pI number), some (pI parts), some (pI x), some (pI y), some (pI z), none, none, none, none, none] [pI r1] h1 Post))) ∧ ((¬ t0 = 0) → Ok shC 0 0 mX8_tellStep 107 [none, none, none, none, none, none, none, none, none, none, none, none] [] h Post)))) :
    Ok shC 0 0 mX8_tellStep 90 [some (pR 0), some (pI kind), some (pI number), some (pI parts), some (pI x), some (pI y), some (pI z), some (pI v7), some (pI v8), none, none, none] [pI t0] h Post := by
  show Ok shC 0 0 mX8_tellStep 90 [some (pR 0), some (pI kind), some (pI number), some (pI parts), some (pI x), some (pI y), some (pI z), some (pI v7), some (pI v8), none, none, none] [pI t0] h Post
  refine Ok.istore (pc' := 92) (ls' := [some (pR 0), some (pI kind), some (pI number), some (pI parts), some (pI x), some (pI y), some (pI z), some (pI v7), some (pI v8), some (pI t0), none, none]) dX8_tellStep_90 rfl (by decide) rfl rfl ?_
  refine Ok.iload (pc' := 94) rfl dX8_tellStep_92 rfl ?_
  refine Ok.if_ne (tgt := 107) dX8_tellStep_94 rfl rfl (fun c1 => ?_) (fun c1 => ?_)
  · replace K := K.1 c1
    exact Ok.fl (ls' := [none, none, none, none, none, none, none, none, none, none, none, none]) K trivial
  · replace K := K.2 c1
    refine Ok.iload (pc' := 99) rfl dX8_tellStep_97 rfl ?_
    refine Ok.if_ne (tgt := 107) dX8_tellStep_99 rfl rfl (fun c2 => ?_) (fun c2 => ?_)
    · replace K := K.1 c2
      exact Ok.fl (ls' := [none, none, none, none, none, none, none, none, none, none, none, none]) K trivial
    · replace K := K.2 c2
      refine Ok.iload (pc' := 104) rfl dX8_tellStep_102 rfl ?_
      refine Ok.if_eq (tgt := 109) dX8_tellStep_104 rfl rfl (fun c3 => ?_) (fun c3 => ?_)
      · replace K := K.1 c3
        refine Ok.iload_n (pc' := 110) rfl dX8_tellStep_109 rfl ?_
        refine Ok.if_le (tgt := 125) dX8_tellStep_110 rfl rfl (fun c4 => ?_) (fun c4 => ?_)
        · replace K := K.1 c4
          refine Ok.iconst (pc' := 126) in_0 dX8_tellStep_125 rfl ?_
          exact Ok.fl (ls' := [some (pR 0), some (pI kind), some (pI number), some (pI parts), some (pI x), some (pI y), some (pI z), none, none, none, none, none]) K ⟨rfl, rfl, rfl, rfl, rfl, rfl, rfl, trivial⟩
        · replace K := K.2 c4
          refine Ok.aload_n (pc' := 114) rfl dX8_tellStep_113 rfl ?_
          refine Ok.getR (pc' := 117) (k := 0) dX8_tellStep_114 rfl (shC_0 _) rfl inX8 (by decide) rfl wd_382 rfl ?_
          refine Ok.iload (pc' := 119) rfl dX8_tellStep_117 rfl ?_
          refine Ok.callV (pc' := 122) (av := [pI x]) (rest := []) dX8_tellStep_119 rfl (by decide) cvX8_tellStep_225 (shC_1 _) rfl rfl rfl (leb rfl) (leb rfl) K (fun r1 h1 K => ?_)
          show Ok shC 0 0 mX8_tellStep 122 [some (pR 0), some (pI kind), some (pI number), some (pI parts), some (pI x), some (pI y), some (pI z), some (pI v7), some (pI v8), some (pI t0), none, none] [pI r1] h1 Post
          refine Ok.goto (tgt := 126) dX8_tellStep_122 rfl ?_
          exact Ok.fl (ls' := [some (pR 0), some (pI kind), some (pI number), some (pI parts), some (pI x), some (pI y), some (pI z), none, none, none, none, none]) K ⟨rfl, rfl, rfl, rfl, rfl, rfl, rfl, trivial⟩
      · replace K := K.2 c3
        exact Ok.fl (ls' := [none, none, none, none, none, none, none, none, none, none, none, none]) K trivial
theorem sX8_tellStep_107 {h : Hp} {Post : Int → Hp → Prop}
    (K : Post (-1) h) :
    Ok shC 0 0 mX8_tellStep 107 [none, none, none, none, none, none, none, none, none, none, none, none] [] h Post := by
  show Ok shC 0 0 mX8_tellStep 107 [none, none, none, none, none, none, none, none, none, none, none, none] [] h Post
  refine Ok.iconst (pc' := 108) in_m1 dX8_tellStep_107 rfl ?_
  exact Ok.iret dX8_tellStep_108 rfl (by decide) K
theorem sX8_tellStep_126 {kind number parts x y z t0 : Int} {h : Hp} {Post : Int → Hp → Prop}
    (K : ((parts ≤ 1) → Ok shC 0 0 mX8_tellStep 152 [some (pR 0), some (pI kind), some (pI number), some (pI parts), some (pI x), some (pI y), some (pI z), none, none, none, none, none] [pI t0] h Post) ∧ ((¬ parts ≤ 1) → Cl shC mX1_highOf [pR 1, pI y] h (fun r1 h1 => Ok shC 0 0 mX8_tellStep 152 [some (pR 0), some (pI kind), some (pI number), some (pI parts), some (pI x), some (pI y), some (pI z), none, none, none, none, none] [pI (max t0 r1)] h1 Post))) :
    Ok shC 0 0 mX8_tellStep 126 [some (pR 0), some (pI kind), some (pI number), some (pI parts), some (pI x), some (pI y), some (pI z), none, none, none, none, none] [pI t0] h Post := by
  show Ok shC 0 0 mX8_tellStep 126 [some (pR 0), some (pI kind), some (pI number), some (pI parts), some (pI x), some (pI y), some (pI z), none, none, none, none, none] [pI t0] h Post
  refine Ok.istore (pc' := 128) (ls' := [some (pR 0), some (pI kind), some (pI number), some (pI parts), some (pI x), some (pI y), some (pI z), none, none, none, some (pI t0), none]) dX8_tellStep_126 rfl (by decide) rfl rfl ?_
  refine Ok.iload_n (pc' := 129) rfl dX8_tellStep_128 rfl ?_
  refine Ok.iconst (pc' := 130) in_1 dX8_tellStep_129 rfl ?_
  refine Ok.icmp_le (tgt := 150) dX8_tellStep_130 rfl rfl (fun c1 => ?_) (fun c1 => ?_)
  · replace K := K.1 c1
    refine Ok.iload (pc' := 152) rfl dX8_tellStep_150 rfl ?_
    exact Ok.fl (ls' := [some (pR 0), some (pI kind), some (pI number), some (pI parts), some (pI x), some (pI y), some (pI z), none, none, none, none, none]) K ⟨rfl, rfl, rfl, rfl, rfl, rfl, rfl, trivial⟩
  · replace K := K.2 c1
    refine Ok.iload (pc' := 135) rfl dX8_tellStep_133 rfl ?_
    refine Ok.aload_n (pc' := 136) rfl dX8_tellStep_135 rfl ?_
    refine Ok.getR (pc' := 139) (k := 0) dX8_tellStep_136 rfl (shC_0 _) rfl inX8 (by decide) rfl wd_382 rfl ?_
    refine Ok.iload (pc' := 141) rfl dX8_tellStep_139 rfl ?_
    refine Ok.callV (pc' := 144) (av := [pI y]) (rest := [pI t0]) dX8_tellStep_141 rfl (by decide) cvX8_tellStep_225 (shC_1 _) rfl rfl rfl (leb rfl) (leb rfl) K (fun r1 h1 K => ?_)
    show Ok shC 0 0 mX8_tellStep 144 [some (pR 0), some (pI kind), some (pI number), some (pI parts), some (pI x), some (pI y), some (pI z), none, none, none, some (pI t0), none] [pI r1, pI t0] h1 Post
    refine Ok.mmax (pc' := 147) dX8_tellStep_144 rfl (by decide) mwX8_tellStep_228 (by decide) (leb rfl) ?_
    refine Ok.goto (tgt := 152) dX8_tellStep_147 rfl ?_
    exact Ok.fl (ls' := [some (pR 0), some (pI kind), some (pI number), some (pI parts), some (pI x), some (pI y), some (pI z), none, none, none, none, none]) K ⟨rfl, rfl, rfl, rfl, rfl, rfl, rfl, trivial⟩
theorem sX8_tellStep_152 {kind number parts x y z t0 : Int} {h : Hp} {Post : Int → Hp → Prop}
    (K : ((parts ≤ 2) → Ok shC 0 0 mX8_tellStep 178 [some (pR 0), some (pI kind), some (pI number), some (pI parts), some (pI x), some (pI y), some (pI z), none, none, none, none, none] [pI t0] h Post) ∧ ((¬ parts ≤ 2) → Cl shC mX1_highOf [pR 1, pI z] h (fun r1 h1 => Ok shC 0 0 mX8_tellStep 178 [some (pR 0), some (pI kind), some (pI number), some (pI parts), some (pI x), some (pI y), some (pI z), none, none, none, none, none] [pI (max t0 r1)] h1 Post))) :
    Ok shC 0 0 mX8_tellStep 152 [some (pR 0), some (pI kind), some (pI number), some (pI parts), some (pI x), some (pI y), some (pI z), none, none, none, none, none] [pI t0] h Post := by
  show Ok shC 0 0 mX8_tellStep 152 [some (pR 0), some (pI kind), some (pI number), some (pI parts), some (pI x), some (pI y), some (pI z), none, none, none, none, none] [pI t0] h Post
  refine Ok.istore (pc' := 154) (ls' := [some (pR 0), some (pI kind), some (pI number), some (pI parts), some (pI x), some (pI y), some (pI z), none, none, none, some (pI t0), none]) dX8_tellStep_152 rfl (by decide) rfl rfl ?_
  refine Ok.iload_n (pc' := 155) rfl dX8_tellStep_154 rfl ?_
  refine Ok.iconst (pc' := 156) in_2 dX8_tellStep_155 rfl ?_
  refine Ok.icmp_le (tgt := 176) dX8_tellStep_156 rfl rfl (fun c1 => ?_) (fun c1 => ?_)
  · replace K := K.1 c1
    refine Ok.iload (pc' := 178) rfl dX8_tellStep_176 rfl ?_
    exact Ok.fl (ls' := [some (pR 0), some (pI kind), some (pI number), some (pI parts), some (pI x), some (pI y), some (pI z), none, none, none, none, none]) K ⟨rfl, rfl, rfl, rfl, rfl, rfl, rfl, trivial⟩
  · replace K := K.2 c1
    refine Ok.iload (pc' := 161) rfl dX8_tellStep_159 rfl ?_
    refine Ok.aload_n (pc' := 162) rfl dX8_tellStep_161 rfl ?_
    refine Ok.getR (pc' := 165) (k := 0) dX8_tellStep_162 rfl (shC_0 _) rfl inX8 (by decide) rfl wd_382 rfl ?_
    refine Ok.iload (pc' := 167) rfl dX8_tellStep_165 rfl ?_
    refine Ok.callV (pc' := 170) (av := [pI z]) (rest := [pI t0]) dX8_tellStep_167 rfl (by decide) cvX8_tellStep_225 (shC_1 _) rfl rfl rfl (leb rfl) (leb rfl) K (fun r1 h1 K => ?_)
    show Ok shC 0 0 mX8_tellStep 170 [some (pR 0), some (pI kind), some (pI number), some (pI parts), some (pI x), some (pI y), some (pI z), none, none, none, some (pI t0), none] [pI r1, pI t0] h1 Post
    refine Ok.mmax (pc' := 173) dX8_tellStep_170 rfl (by decide) mwX8_tellStep_228 (by decide) (leb rfl) ?_
    refine Ok.goto (tgt := 178) dX8_tellStep_173 rfl ?_
    exact Ok.fl (ls' := [some (pR 0), some (pI kind), some (pI number), some (pI parts), some (pI x), some (pI y), some (pI z), none, none, none, none, none]) K ⟨rfl, rfl, rfl, rfl, rfl, rfl, rfl, trivial⟩
theorem sX8_tellStep_178 {kind number parts x y z t0 : Int} {h : Hp} {Post : Int → Hp → Prop}
    (K : ((600 ≤ h.2.1 2 6) → Ok shC 0 0 mX8_tellStep 203 [none, none, none, none, none, none, none, none, none, none, none, none] [] h Post) ∧ ((¬ 600 ≤ h.2.1 2 6) → ((t0 < 40) → Cl shC mX1_add [pR 1, pI kind, pI number] h (fun r1 h1 => ((parts ≤ 0) → Ok shC 0 0 mX8_tellStep 232 [some (pR 0), none, none, some (pI parts), none, some (pI y), some (pI z), none, none, none, none, some (pI r1)] [] h1 Post) ∧ ((¬ parts ≤ 0) → Cl shC mX1_append [pR 1, pI r1, pI x] h1 (fun _ h2 => Ok shC 0 0 mX8_tellStep 232 [some (pR 0), none, none, some (pI parts), none, some (pI y), some (pI z), none, none, none, none, some (pI r1)] [] h2 Post)))) ∧ ((¬ t0 < 40) → Ok shC 0 0 mX8_tellStep 203 [none, none, none, none, none, none, none, none, none, none, none, none] [] h Post))) :
    Ok shC 0 0 mX8_tellStep 178 [some (pR 0), some (pI kind), some (pI number), some (pI parts), some (pI x), some (pI y), some (pI z), none, none, none, none, none] [pI t0] h Post := by
  show Ok shC 0 0 mX8_tellStep 178 [some (pR 0), some (pI kind), some (pI number), some (pI parts), some (pI x), some (pI y), some (pI z), none, none, none, none, none] [pI t0] h Post
  refine Ok.istore (pc' := 180) (ls' := [some (pR 0), some (pI kind), some (pI number), some (pI parts), some (pI x), some (pI y), some (pI z), none, none, none, some (pI t0), none]) dX8_tellStep_178 rfl (by decide) rfl rfl ?_
  refine Ok.aload_n (pc' := 181) rfl dX8_tellStep_180 rfl ?_
  refine Ok.getR (pc' := 184) (k := 0) dX8_tellStep_181 rfl (shC_0 _) rfl inX8 (by decide) rfl wd_382 rfl ?_
  refine Ok.getRN (pc' := 187) (k := 0) dX8_tellStep_184 rfl (shC_1 _) rfl inX1 (by decide) rfl wd_192 rfl ?_
  refine Ok.getIN (pc' := 190) (z := h.2.1 2 6) (k := 6) dX8_tellStep_187 rfl (shC_2 _) rfl inX5 (by decide) rfl rfl wd_135 rfl ?_
  refine Ok.sipush (pc' := 193) ⟨by decide, by decide⟩ dX8_tellStep_190 rfl ?_
  refine Ok.icmp_ge (tgt := 203) dX8_tellStep_193 rfl rfl (fun c1 => ?_) (fun c1 => ?_)
  · replace K := K.1 c1
    exact Ok.fl (ls' := [none, none, none, none, none, none, none, none, none, none, none, none]) K trivial
  · replace K := K.2 c1
    refine Ok.iload (pc' := 198) rfl dX8_tellStep_196 rfl ?_
    refine Ok.bipush (pc' := 200) ⟨by decide, by decide⟩ dX8_tellStep_198 rfl ?_
    refine Ok.icmp_lt (tgt := 206) dX8_tellStep_200 rfl rfl (fun c2 => ?_) (fun c2 => ?_)
    · replace K := K.1 c2
      refine Ok.aload_n (pc' := 207) rfl dX8_tellStep_206 rfl ?_
      refine Ok.getR (pc' := 210) (k := 0) dX8_tellStep_207 rfl (shC_0 _) rfl inX8 (by decide) rfl wd_382 rfl ?_
      refine Ok.iload_n (pc' := 211) rfl dX8_tellStep_210 rfl ?_
      refine Ok.iload_n (pc' := 212) rfl dX8_tellStep_211 rfl ?_
      refine Ok.callV (pc' := 215) (av := [pI kind, pI number]) (rest := []) dX8_tellStep_212 rfl (by decide) cvX8_tellStep_233 (shC_1 _) rfl rfl rfl (leb rfl) (leb rfl) K (fun r1 h1 K => ?_)
      show Ok shC 0 0 mX8_tellStep 215 [some (pR 0), some (pI kind), some (pI number), some (pI parts), some (pI x), some (pI y), some (pI z), none, none, none, some (pI t0), none] [pI r1] h1 Post
      refine Ok.istore (pc' := 217) (ls' := [some (pR 0), some (pI kind), some (pI number), some (pI parts), some (pI x), some (pI y), some (pI z), none, none, none, some (pI t0), some (pI r1)]) dX8_tellStep_215 rfl (by decide) rfl rfl ?_
      refine Ok.iload_n (pc' := 218) rfl dX8_tellStep_217 rfl ?_
      refine Ok.if_le (tgt := 232) dX8_tellStep_218 rfl rfl (fun c3 => ?_) (fun c3 => ?_)
      · replace K := K.1 c3
        exact Ok.fl (ls' := [some (pR 0), none, none, some (pI parts), none, some (pI y), some (pI z), none, none, none, none, some (pI r1)]) K ⟨rfl, rfl, rfl, rfl, rfl, trivial⟩
      · replace K := K.2 c3
        refine Ok.aload_n (pc' := 222) rfl dX8_tellStep_221 rfl ?_
        refine Ok.getR (pc' := 225) (k := 0) dX8_tellStep_222 rfl (shC_0 _) rfl inX8 (by decide) rfl wd_382 rfl ?_
        refine Ok.iload (pc' := 227) rfl dX8_tellStep_225 rfl ?_
        refine Ok.iload (pc' := 229) rfl dX8_tellStep_227 rfl ?_
        refine Ok.callV (pc' := 232) (av := [pI r1, pI x]) (rest := []) dX8_tellStep_229 rfl (by decide) cvX8_tellStep_236 (shC_1 _) rfl rfl rfl (leb rfl) (leb rfl) K (fun r_ h2 K => ?_)
        show Ok shC 0 0 mX8_tellStep 232 [some (pR 0), some (pI kind), some (pI number), some (pI parts), some (pI x), some (pI y), some (pI z), none, none, none, some (pI t0), some (pI r1)] [] h2 Post
        exact Ok.fl (ls' := [some (pR 0), none, none, some (pI parts), none, some (pI y), some (pI z), none, none, none, none, some (pI r1)]) K ⟨rfl, rfl, rfl, rfl, rfl, trivial⟩
    · replace K := K.2 c2
      exact Ok.fl (ls' := [none, none, none, none, none, none, none, none, none, none, none, none]) K trivial
theorem sX8_tellStep_203 {h : Hp} {Post : Int → Hp → Prop}
    (K : Post (-3) h) :
    Ok shC 0 0 mX8_tellStep 203 [none, none, none, none, none, none, none, none, none, none, none, none] [] h Post := by
  show Ok shC 0 0 mX8_tellStep 203 [none, none, none, none, none, none, none, none, none, none, none, none] [] h Post
  refine Ok.bipush (pc' := 205) ⟨by decide, by decide⟩ dX8_tellStep_203 rfl ?_
  exact Ok.iret dX8_tellStep_205 rfl (by decide) K
theorem sX8_tellStep_232 {parts y z v11 : Int} {h : Hp} {Post : Int → Hp → Prop}
    (K : ((parts ≤ 1) → Ok shC 0 0 mX8_tellStep 248 [some (pR 0), none, none, some (pI parts), none, none, some (pI z), none, none, none, none, some (pI v11)] [] h Post) ∧ ((¬ parts ≤ 1) → Cl shC mX1_append [pR 1, pI v11, pI y] h (fun _ h1 => Ok shC 0 0 mX8_tellStep 248 [some (pR 0), none, none, some (pI parts), none, none, some (pI z), none, none, none, none, some (pI v11)] [] h1 Post))) :
    Ok shC 0 0 mX8_tellStep 232 [some (pR 0), none, none, some (pI parts), none, some (pI y), some (pI z), none, none, none, none, some (pI v11)] [] h Post := by
  show Ok shC 0 0 mX8_tellStep 232 [some (pR 0), none, none, some (pI parts), none, some (pI y), some (pI z), none, none, none, none, some (pI v11)] [] h Post
  refine Ok.iload_n (pc' := 233) rfl dX8_tellStep_232 rfl ?_
  refine Ok.iconst (pc' := 234) in_1 dX8_tellStep_233 rfl ?_
  refine Ok.icmp_le (tgt := 248) dX8_tellStep_234 rfl rfl (fun c1 => ?_) (fun c1 => ?_)
  · replace K := K.1 c1
    exact Ok.fl (ls' := [some (pR 0), none, none, some (pI parts), none, none, some (pI z), none, none, none, none, some (pI v11)]) K ⟨rfl, rfl, rfl, rfl, trivial⟩
  · replace K := K.2 c1
    refine Ok.aload_n (pc' := 238) rfl dX8_tellStep_237 rfl ?_
    refine Ok.getR (pc' := 241) (k := 0) dX8_tellStep_238 rfl (shC_0 _) rfl inX8 (by decide) rfl wd_382 rfl ?_
    refine Ok.iload (pc' := 243) rfl dX8_tellStep_241 rfl ?_
    refine Ok.iload (pc' := 245) rfl dX8_tellStep_243 rfl ?_
    refine Ok.callV (pc' := 248) (av := [pI v11, pI y]) (rest := []) dX8_tellStep_245 rfl (by decide) cvX8_tellStep_236 (shC_1 _) rfl rfl rfl (leb rfl) (leb rfl) K (fun r_ h1 K => ?_)
    show Ok shC 0 0 mX8_tellStep 248 [some (pR 0), none, none, some (pI parts), none, some (pI y), some (pI z), none, none, none, none, some (pI v11)] [] h1 Post
    exact Ok.fl (ls' := [some (pR 0), none, none, some (pI parts), none, none, some (pI z), none, none, none, none, some (pI v11)]) K ⟨rfl, rfl, rfl, rfl, trivial⟩
theorem sX8_tellStep_248 {parts z v11 : Int} {h : Hp} {Post : Int → Hp → Prop}
    (K : ((parts ≤ 2) → Ok shC 0 0 mX8_tellStep 264 [some (pR 0), none, none, none, none, none, none, none, none, none, none, some (pI v11)] [] h Post) ∧ ((¬ parts ≤ 2) → Cl shC mX1_append [pR 1, pI v11, pI z] h (fun _ h1 => Ok shC 0 0 mX8_tellStep 264 [some (pR 0), none, none, none, none, none, none, none, none, none, none, some (pI v11)] [] h1 Post))) :
    Ok shC 0 0 mX8_tellStep 248 [some (pR 0), none, none, some (pI parts), none, none, some (pI z), none, none, none, none, some (pI v11)] [] h Post := by
  show Ok shC 0 0 mX8_tellStep 248 [some (pR 0), none, none, some (pI parts), none, none, some (pI z), none, none, none, none, some (pI v11)] [] h Post
  refine Ok.iload_n (pc' := 249) rfl dX8_tellStep_248 rfl ?_
  refine Ok.iconst (pc' := 250) in_2 dX8_tellStep_249 rfl ?_
  refine Ok.icmp_le (tgt := 264) dX8_tellStep_250 rfl rfl (fun c1 => ?_) (fun c1 => ?_)
  · replace K := K.1 c1
    exact Ok.fl (ls' := [some (pR 0), none, none, none, none, none, none, none, none, none, none, some (pI v11)]) K ⟨rfl, rfl, trivial⟩
  · replace K := K.2 c1
    refine Ok.aload_n (pc' := 254) rfl dX8_tellStep_253 rfl ?_
    refine Ok.getR (pc' := 257) (k := 0) dX8_tellStep_254 rfl (shC_0 _) rfl inX8 (by decide) rfl wd_382 rfl ?_
    refine Ok.iload (pc' := 259) rfl dX8_tellStep_257 rfl ?_
    refine Ok.iload (pc' := 261) rfl dX8_tellStep_259 rfl ?_
    refine Ok.callV (pc' := 264) (av := [pI v11, pI z]) (rest := []) dX8_tellStep_261 rfl (by decide) cvX8_tellStep_236 (shC_1 _) rfl rfl rfl (leb rfl) (leb rfl) K (fun r_ h1 K => ?_)
    show Ok shC 0 0 mX8_tellStep 264 [some (pR 0), none, none, some (pI parts), none, none, some (pI z), none, none, none, none, some (pI v11)] [] h1 Post
    exact Ok.fl (ls' := [some (pR 0), none, none, none, none, none, none, none, none, none, none, some (pI v11)]) K ⟨rfl, rfl, trivial⟩
theorem sX8_tellStep_264 {v11 : Int} {h : Hp} {Post : Int → Hp → Prop}
    (K : Cl shC mX4_forgetAll [pR 38] h (fun _ h1 => Post v11 h1)) :
    Ok shC 0 0 mX8_tellStep 264 [some (pR 0), none, none, none, none, none, none, none, none, none, none, some (pI v11)] [] h Post := by
  show Ok shC 0 0 mX8_tellStep 264 [some (pR 0), none, none, none, none, none, none, none, none, none, none, some (pI v11)] [] h Post
  refine Ok.aload_n (pc' := 265) rfl dX8_tellStep_264 rfl ?_
  refine Ok.getR (pc' := 268) (k := 4) dX8_tellStep_265 rfl (shC_0 _) rfl inX8 (by decide) rfl wd_386 rfl ?_
  refine Ok.callV (pc' := 271) (av := []) (rest := []) dX8_tellStep_268 rfl (by decide) cvX8_tellStep_73 (shC_38 _) rfl rfl rfl (leb rfl) (leb rfl) K (fun r_ h1 K => ?_)
  show Ok shC 0 0 mX8_tellStep 271 [some (pR 0), none, none, none, none, none, none, none, none, none, none, some (pI v11)] [] h1 Post
  refine Ok.iload (pc' := 273) rfl dX8_tellStep_271 rfl ?_
  exact Ok.iret dX8_tellStep_273 rfl (by decide) K
theorem sX8_refusalOfChoice_0 {r budget : Int} {h : Hp} {Post : Int → Hp → Prop}
    (K : Cl shC mX1_isRoutine [pR 1, pI r] h (fun r1 h1 => ((r1 = 0) → Post (-1) h1) ∧ ((¬ r1 = 0) → ((budget < 0) → Post (-1) h1) ∧ ((¬ budget < 0) → ((budget ≤ 1000) → Cl shC mX1_isMissing [pR 1, pI r] h1 (fun r2 h2 => ((r2 = 0) → Post 0 h2) ∧ ((¬ r2 = 0) → Post (-2) h2))) ∧ ((¬ budget ≤ 1000) → Post (-1) h1))))) :
    Cl shC mX8_refusalOfChoice [pR 0, pI r, pI budget] h Post := by
  show Ok shC 0 0 mX8_refusalOfChoice 0 [some (pR 0), some (pI r), some (pI budget)] [] h Post
  refine Ok.aload_n (pc' := 1) rfl dX8_refusalOfChoice_0 rfl ?_
  refine Ok.getR (pc' := 4) (k := 0) dX8_refusalOfChoice_1 rfl (shC_0 _) rfl inX8 (by decide) rfl wd_382 rfl ?_
  refine Ok.iload_n (pc' := 5) rfl dX8_refusalOfChoice_4 rfl ?_
  refine Ok.callV (pc' := 8) (av := [pI r]) (rest := []) dX8_refusalOfChoice_5 rfl (by decide) cvX8_refusalOfChoice_63 (shC_1 _) rfl rfl rfl (leb rfl) (leb rfl) K (fun r1 h1 K => ?_)
  show Ok shC 0 0 mX8_refusalOfChoice 8 [some (pR 0), some (pI r), some (pI budget)] [pI r1] h1 Post
  refine Ok.if_eq (tgt := 22) dX8_refusalOfChoice_8 rfl rfl (fun c1 => ?_) (fun c1 => ?_)
  · replace K := K.1 c1
    refine Ok.iconst (pc' := 23) in_m1 dX8_refusalOfChoice_22 rfl ?_
    exact Ok.iret dX8_refusalOfChoice_23 rfl (by decide) K
  · replace K := K.2 c1
    refine Ok.iload_n (pc' := 12) rfl dX8_refusalOfChoice_11 rfl ?_
    refine Ok.if_lt (tgt := 22) dX8_refusalOfChoice_12 rfl rfl (fun c2 => ?_) (fun c2 => ?_)
    · replace K := K.1 c2
      refine Ok.iconst (pc' := 23) in_m1 dX8_refusalOfChoice_22 rfl ?_
      exact Ok.iret dX8_refusalOfChoice_23 rfl (by decide) K
    · replace K := K.2 c2
      refine Ok.iload_n (pc' := 16) rfl dX8_refusalOfChoice_15 rfl ?_
      refine Ok.sipush (pc' := 19) ⟨by decide, by decide⟩ dX8_refusalOfChoice_16 rfl ?_
      refine Ok.icmp_le (tgt := 24) dX8_refusalOfChoice_19 rfl rfl (fun c3 => ?_) (fun c3 => ?_)
      · replace K := K.1 c3
        refine Ok.aload_n (pc' := 25) rfl dX8_refusalOfChoice_24 rfl ?_
        refine Ok.getR (pc' := 28) (k := 0) dX8_refusalOfChoice_25 rfl (shC_0 _) rfl inX8 (by decide) rfl wd_382 rfl ?_
        refine Ok.iload_n (pc' := 29) rfl dX8_refusalOfChoice_28 rfl ?_
        refine Ok.callV (pc' := 32) (av := [pI r]) (rest := []) dX8_refusalOfChoice_29 rfl (by decide) cvX8_refusalOfChoice_162 (shC_1 _) rfl rfl rfl (leb rfl) (leb rfl) K (fun r2 h2 K => ?_)
        show Ok shC 0 0 mX8_refusalOfChoice 32 [some (pR 0), some (pI r), some (pI budget)] [pI r2] h2 Post
        refine Ok.if_eq (tgt := 40) dX8_refusalOfChoice_32 rfl rfl (fun c4 => ?_) (fun c4 => ?_)
        · replace K := K.1 c4
          refine Ok.iconst (pc' := 41) in_0 dX8_refusalOfChoice_40 rfl ?_
          exact Ok.iret dX8_refusalOfChoice_41 rfl (by decide) K
        · replace K := K.2 c4
          refine Ok.bipush (pc' := 37) ⟨by decide, by decide⟩ dX8_refusalOfChoice_35 rfl ?_
          refine Ok.goto (tgt := 41) dX8_refusalOfChoice_37 rfl ?_
          exact Ok.iret dX8_refusalOfChoice_41 rfl (by decide) K
      · replace K := K.2 c3
        refine Ok.iconst (pc' := 23) in_m1 dX8_refusalOfChoice_22 rfl ?_
        exact Ok.iret dX8_refusalOfChoice_23 rfl (by decide) K
theorem sX8_isName_0 {k0 : Int} {h : Hp} {Post : Int → Hp → Prop}
    (K : ((k0 < 0) → Post 0 h) ∧ ((¬ k0 < 0) → ((40 ≤ k0) → Post 0 h) ∧ ((¬ 40 ≤ k0) → Post 1 h))) :
    Cl shC mX8_isName [pI k0] h Post := by
  show Ok shC 0 0 mX8_isName 0 [some (pI k0)] [] h Post
  refine Ok.iload_n (pc' := 1) rfl dX8_isName_0 rfl ?_
  refine Ok.if_lt (tgt := 14) dX8_isName_1 rfl rfl (fun c1 => ?_) (fun c1 => ?_)
  · replace K := K.1 c1
    refine Ok.iconst (pc' := 15) in_0 dX8_isName_14 rfl ?_
    exact Ok.zret dX8_isName_15 rfl (by decide) (Or.inl rfl) K
  · replace K := K.2 c1
    refine Ok.iload_n (pc' := 5) rfl dX8_isName_4 rfl ?_
    refine Ok.bipush (pc' := 7) ⟨by decide, by decide⟩ dX8_isName_5 rfl ?_
    refine Ok.icmp_ge (tgt := 14) dX8_isName_7 rfl rfl (fun c2 => ?_) (fun c2 => ?_)
    · replace K := K.1 c2
      refine Ok.iconst (pc' := 15) in_0 dX8_isName_14 rfl ?_
      exact Ok.zret dX8_isName_15 rfl (by decide) (Or.inl rfl) K
    · replace K := K.2 c2
      refine Ok.iconst (pc' := 11) in_1 dX8_isName_10 rfl ?_
      refine Ok.goto (tgt := 15) dX8_isName_11 rfl ?_
      exact Ok.zret dX8_isName_15 rfl (by decide) (Or.inr rfl) K
theorem sX8_reckon_0 {op x y : Int} {h : Hp} {Post : Int → Hp → Prop}
    (K : ((op = 0) → Post (wr (x + y)) h) ∧ ((op = 1) → Post (wr (x - y)) h) ∧ ((op = 2) → Post (wr (x * y)) h) ∧ ((op = 3) → ((¬ y = 0) → y ≠ 0 ∧ (Post (b_idiv x y) h)) ∧ ((y = 0) → Post 0 h)) ∧ ((op = 4) → ((y ≤ x) → Post 0 h) ∧ ((¬ y ≤ x) → Post 1 h)) ∧ ((op < 0 ∨ 4 < op) → ((¬ x = y) → Post 0 h) ∧ ((x = y) → Post 1 h))) :
    Cl shC mX8_reckon [pI op, pI x, pI y] h Post := by
  show Ok shC 0 0 mX8_reckon 0 [some (pI op), some (pI x), some (pI y)] [] h Post
  refine Ok.iload_n (pc' := 1) rfl dX8_reckon_0 rfl ?_
  obtain ⟨Kc1_0, Kc1_1, Kc1_2, Kc1_3, Kc1_4, Kc1_5⟩ := K
  refine Ok.tsw dX8_reckon_1 rfl ⟨by decide, by decide⟩ (fun tgt ht => ?_)
  have hx : (op = 0) ∨ (op = 1) ∨ (op = 2) ∨ (op = 3) ∨ (op = 4) ∨ (op < 0 ∨ 4 < op) := by omega
  rcases hx with c1 | c1 | c1 | c1 | c1 | c1
  · obtain rfl : 36 = tgt := by rw [c1] at ht; exact Int.ofNat.inj ht
    have K := Kc1_0 c1
    refine Ok.iload_n (pc' := 37) rfl dX8_reckon_36 rfl ?_
    refine Ok.iload_n (pc' := 38) rfl dX8_reckon_37 rfl ?_
    refine Ok.iaddw (pc' := 39) dX8_reckon_38 rfl ?_
    exact Ok.iret dX8_reckon_39 rfl (by decide) K
  · obtain rfl : 40 = tgt := by rw [c1] at ht; exact Int.ofNat.inj ht
    have K := Kc1_1 c1
    refine Ok.iload_n (pc' := 41) rfl dX8_reckon_40 rfl ?_
    refine Ok.iload_n (pc' := 42) rfl dX8_reckon_41 rfl ?_
    refine Ok.isubw (pc' := 43) dX8_reckon_42 rfl ?_
    exact Ok.iret dX8_reckon_43 rfl (by decide) K
  · obtain rfl : 44 = tgt := by rw [c1] at ht; exact Int.ofNat.inj ht
    have K := Kc1_2 c1
    refine Ok.iload_n (pc' := 45) rfl dX8_reckon_44 rfl ?_
    refine Ok.iload_n (pc' := 46) rfl dX8_reckon_45 rfl ?_
    refine Ok.imulw (pc' := 47) dX8_reckon_46 rfl ?_
    exact Ok.iret dX8_reckon_47 rfl (by decide) K
  · obtain rfl : 48 = tgt := by rw [c1] at ht; exact Int.ofNat.inj ht
    have K := Kc1_3 c1
    refine Ok.iload_n (pc' := 49) rfl dX8_reckon_48 rfl ?_
    refine Ok.if_ne (tgt := 56) dX8_reckon_49 rfl rfl (fun c2 => ?_) (fun c2 => ?_)
    · replace K := K.1 c2
      refine Ok.iload_n (pc' := 57) rfl dX8_reckon_56 rfl ?_
      refine Ok.iload_n (pc' := 58) rfl dX8_reckon_57 rfl ?_
      obtain ⟨q3, K⟩ := K
      refine Ok.idiv (pc' := 59) dX8_reckon_58 rfl q3 ?_
      exact Ok.iret dX8_reckon_59 rfl (by decide) K
    · replace K := K.2 c2
      refine Ok.iconst (pc' := 53) in_0 dX8_reckon_52 rfl ?_
      refine Ok.goto (tgt := 59) dX8_reckon_53 rfl ?_
      exact Ok.iret dX8_reckon_59 rfl (by decide) K
  · obtain rfl : 60 = tgt := by rw [c1] at ht; exact Int.ofNat.inj ht
    have K := Kc1_4 c1
    refine Ok.iload_n (pc' := 61) rfl dX8_reckon_60 rfl ?_
    refine Ok.iload_n (pc' := 62) rfl dX8_reckon_61 rfl ?_
    refine Ok.icmp_ge (tgt := 69) dX8_reckon_62 rfl rfl (fun c2 => ?_) (fun c2 => ?_)
    · replace K := K.1 c2
      refine Ok.iconst (pc' := 70) in_0 dX8_reckon_69 rfl ?_
      exact Ok.iret dX8_reckon_70 rfl (by decide) K
    · replace K := K.2 c2
      refine Ok.iconst (pc' := 66) in_1 dX8_reckon_65 rfl ?_
      refine Ok.goto (tgt := 70) dX8_reckon_66 rfl ?_
      exact Ok.iret dX8_reckon_70 rfl (by decide) K
  · obtain rfl : 71 = tgt := by
      rcases c1 with q | q
      · rw [swT_out (Or.inl q)] at ht; exact Int.ofNat.inj ht
      · rw [swT_out (Or.inr q)] at ht; exact Int.ofNat.inj ht
    have K := Kc1_5 c1
    refine Ok.iload_n (pc' := 72) rfl dX8_reckon_71 rfl ?_
    refine Ok.iload_n (pc' := 73) rfl dX8_reckon_72 rfl ?_
    refine Ok.icmp_ne (tgt := 80) dX8_reckon_73 rfl rfl (fun c2 => ?_) (fun c2 => ?_)
    · replace K := K.1 c2
      refine Ok.iconst (pc' := 81) in_0 dX8_reckon_80 rfl ?_
      exact Ok.iret dX8_reckon_81 rfl (by decide) K
    · replace K := K.2 c2
      refine Ok.iconst (pc' := 77) in_1 dX8_reckon_76 rfl ?_
      refine Ok.goto (tgt := 81) dX8_reckon_77 rfl ?_
      exact Ok.iret dX8_reckon_81 rfl (by decide) K
