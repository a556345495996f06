theorem sX3_weightOf_0 {call : Int} {h : Hp} {Post : Int → Hp → Prop}
    (K : Cl shC mX1_numberOf [pR 1, pI call] h (fun r1 h1 => Cl shC mX1_paramsOf [pR 1, pI r1] h1 (fun r2 h2 => Cl shC mX1_usesOf [pR 1, pI r1] h2 (fun r3 h3 => inR ((r3 - r2)) ∧ (inR ((2 * r2)) ∧ (inR ((3 * (r3 - r2))) ∧ (inR (((2 * r2) + (3 * (r3 - r2)))) ∧ (Cl shC mX1_bodyOf [pR 1, pI r1] h3 (fun r4 h4 => Cl shC mX1_sizeOf [pR 1, pI r4] h4 (fun r5 h5 => inR ((((2 * r2) + (3 * (r3 - r2))) + r5)) ∧ (Post (((2 * r2) + (3 * (r3 - r2))) + r5) h5))))))))))) :
    Cl shC mX3_weightOf [pR 28, pI call] h Post := by
  show Ok shC 0 0 mX3_weightOf 0 [some (pR 28), some (pI call), none, none, none] [] h Post
  refine Ok.aload_n (pc' := 1) rfl dX3_weightOf_0 rfl ?_
  refine Ok.getR (pc' := 4) (k := 0) dX3_weightOf_1 rfl (shC_28 _) rfl inX3 (by decide) rfl wd_271 rfl ?_
  refine Ok.iload_n (pc' := 5) rfl dX3_weightOf_4 rfl ?_
  refine Ok.callV (pc' := 8) (av := [pI call]) (rest := []) dX3_weightOf_5 rfl (by decide) cvX3_weightOf_28 (shC_1 _) rfl rfl rfl (leb rfl) (leb rfl) K (fun r1 h1 K => ?_)
  show Ok shC 0 0 mX3_weightOf 8 [some (pR 28), some (pI call), none, none, none] [pI r1] h1 Post
  refine Ok.istore_n (pc' := 9) (ls' := [some (pR 28), some (pI call), some (pI r1), none, none]) dX3_weightOf_8 rfl (by decide) rfl rfl ?_
  refine Ok.aload_n (pc' := 10) rfl dX3_weightOf_9 rfl ?_
  refine Ok.getR (pc' := 13) (k := 0) dX3_weightOf_10 rfl (shC_28 _) rfl inX3 (by decide) rfl wd_271 rfl ?_
  refine Ok.iload_n (pc' := 14) rfl dX3_weightOf_13 rfl ?_
  refine Ok.callV (pc' := 17) (av := [pI r1]) (rest := []) dX3_weightOf_14 rfl (by decide) cvX3_weightOf_32 (shC_1 _) rfl rfl rfl (leb rfl) (leb rfl) K (fun r2 h2 K => ?_)
  show Ok shC 0 0 mX3_weightOf 17 [some (pR 28), some (pI call), some (pI r1), none, none] [pI r2] h2 Post
  refine Ok.istore_n (pc' := 18) (ls' := [some (pR 28), some (pI call), some (pI r1), some (pI r2), none]) dX3_weightOf_17 rfl (by decide) rfl rfl ?_
  refine Ok.aload_n (pc' := 19) rfl dX3_weightOf_18 rfl ?_
  refine Ok.getR (pc' := 22) (k := 0) dX3_weightOf_19 rfl (shC_28 _) rfl inX3 (by decide) rfl wd_271 rfl ?_
  refine Ok.iload_n (pc' := 23) rfl dX3_weightOf_22 rfl ?_
  refine Ok.callV (pc' := 26) (av := [pI r1]) (rest := []) dX3_weightOf_23 rfl (by decide) cvX3_weightOf_35 (shC_1 _) rfl rfl rfl (leb rfl) (leb rfl) K (fun r3 h3 K => ?_)
  show Ok shC 0 0 mX3_weightOf 26 [some (pR 28), some (pI call), some (pI r1), some (pI r2), none] [pI r3] h3 Post
  refine Ok.iload_n (pc' := 27) rfl dX3_weightOf_26 rfl ?_
  obtain ⟨q1, K⟩ := K
  refine Ok.isub (pc' := 28) dX3_weightOf_27 rfl q1 ?_
  refine Ok.istore (pc' := 30) (ls' := [some (pR 28), some (pI call), some (pI r1), some (pI r2), some (pI (r3 - r2))]) dX3_weightOf_28 rfl (by decide) rfl rfl ?_
  refine Ok.iconst (pc' := 31) in_2 dX3_weightOf_30 rfl ?_
  refine Ok.iload_n (pc' := 32) rfl dX3_weightOf_31 rfl ?_
  obtain ⟨q2, K⟩ := K
  refine Ok.imul (pc' := 33) dX3_weightOf_32 rfl q2 ?_
  refine Ok.iconst (pc' := 34) in_3 dX3_weightOf_33 rfl ?_
  refine Ok.iload (pc' := 36) rfl dX3_weightOf_34 rfl ?_
  obtain ⟨q3, K⟩ := K
  refine Ok.imul (pc' := 37) dX3_weightOf_36 rfl q3 ?_
  obtain ⟨q4, K⟩ := K
  refine Ok.iadd (pc' := 38) dX3_weightOf_37 rfl q4 ?_
  refine Ok.aload_n (pc' := 39) rfl dX3_weightOf_38 rfl ?_
  refine Ok.getR (pc' := 42) (k := 0) dX3_weightOf_39 rfl (shC_28 _) rfl inX3 (by decide) rfl wd_271 rfl ?_
  refine Ok.aload_n (pc' := 43) rfl dX3_weightOf_42 rfl ?_
  refine Ok.getR (pc' := 46) (k := 0) dX3_weightOf_43 rfl (shC_28 _) rfl inX3 (by decide) rfl wd_271 rfl ?_
  refine Ok.iload_n (pc' := 47) rfl dX3_weightOf_46 rfl ?_
  refine Ok.callV (pc' := 50) (av := [pI r1]) (rest := [pR 1, pI ((2 * r2) + (3 * (r3 - r2)))]) dX3_weightOf_47 rfl (by decide) cvX3_weightOf_38 (shC_1 _) rfl rfl rfl (leb rfl) (leb rfl) K (fun r4 h4 K => ?_)
  show Ok shC 0 0 mX3_weightOf 50 [some (pR 28), some (pI call), some (pI r1), some (pI r2), some (pI (r3 - r2))] [pI r4, pR 1, pI ((2 * r2) + (3 * (r3 - r2)))] h4 Post
  refine Ok.callV (pc' := 53) (av := [pI r4]) (rest := [pI ((2 * r2) + (3 * (r3 - r2)))]) dX3_weightOf_50 rfl (by decide) cvX3_weightOf_41 (shC_1 _) rfl rfl rfl (leb rfl) (leb rfl) K (fun r5 h5 K => ?_)
  show Ok shC 0 0 mX3_weightOf 53 [some (pR 28), some (pI call), some (pI r1), some (pI r2), some (pI (r3 - r2))] [pI r5, pI ((2 * r2) + (3 * (r3 - r2)))] h5 Post
  obtain ⟨q5, K⟩ := K
  refine Ok.iadd (pc' := 54) dX3_weightOf_53 rfl q5 ?_
  exact Ok.iret dX3_weightOf_54 rfl (by decide) K
theorem sX3_fits_0 {call : Int} {h : Hp} {Post : Int → Hp → Prop}
    (K : Cl shC mX1_numberOf [pR 1, pI call] h (fun r1 h1 => Cl shC mX1_usesOf [pR 1, pI r1] h1 (fun r2 h2 => Cl shC mX1_routineOf [pR 1, pI call] h2 (fun r3 h3 => Cl shC mX1_usesOf [pR 1, pI r3] h3 (fun r4 h4 => inR ((r4 + r2)) ∧ (Cl shC mX3_weightOf [pR 28, pI call] h4 (fun r5 h5 => inR ((h4.2.1 2 6 + r5)) ∧ (inR (((h4.2.1 2 6 + r5) + 1)) ∧ (Cl shC mX1_stepsAbove [pR 1, pI call] h5 (fun r6 h6 => Cl shC mX3_highWrittenOut [pR 28, pI call, pI r2] h6 (fun r7 h7 => inR ((r6 + r7)) ∧ (((600 < ((h4.2.1 2 6 + r5) + 1)) → Post 0 h7) ∧ ((¬ 600 < ((h4.2.1 2 6 + r5) + 1)) → ((40 < (r4 + r2)) → Post 0 h7) ∧ ((¬ 40 < (r4 + r2)) → ((40 < (r6 + r7)) → Post 0 h7) ∧ ((¬ 40 < (r6 + r7)) → Post 1 h7))))))))))))))) :
    Cl shC mX3_fits [pR 28, pI call] h Post := by
  show Ok shC 0 0 mX3_fits 0 [some (pR 28), some (pI call), none, none, none, none] [] h Post
  refine Ok.aload_n (pc' := 1) rfl dX3_fits_0 rfl ?_
  refine Ok.getR (pc' := 4) (k := 0) dX3_fits_1 rfl (shC_28 _) rfl inX3 (by decide) rfl wd_271 rfl ?_
  refine Ok.aload_n (pc' := 5) rfl dX3_fits_4 rfl ?_
  refine Ok.getR (pc' := 8) (k := 0) dX3_fits_5 rfl (shC_28 _) rfl inX3 (by decide) rfl wd_271 rfl ?_
  refine Ok.iload_n (pc' := 9) rfl dX3_fits_8 rfl ?_
  refine Ok.callV (pc' := 12) (av := [pI call]) (rest := [pR 1]) dX3_fits_9 rfl (by decide) cvX3_fits_28 (shC_1 _) rfl rfl rfl (leb rfl) (leb rfl) K (fun r1 h1 K => ?_)
  show Ok shC 0 0 mX3_fits 12 [some (pR 28), some (pI call), none, none, none, none] [pI r1, pR 1] h1 Post
  refine Ok.callV (pc' := 15) (av := [pI r1]) (rest := []) dX3_fits_12 rfl (by decide) cvX3_fits_35 (shC_1 _) rfl rfl rfl (leb rfl) (leb rfl) K (fun r2 h2 K => ?_)
  show Ok shC 0 0 mX3_fits 15 [some (pR 28), some (pI call), none, none, none, none] [pI r2] h2 Post
  refine Ok.istore_n (pc' := 16) (ls' := [some (pR 28), some (pI call), some (pI r2), none, none, none]) dX3_fits_15 rfl (by decide) rfl rfl ?_
  refine Ok.aload_n (pc' := 17) rfl dX3_fits_16 rfl ?_
  refine Ok.getR (pc' := 20) (k := 0) dX3_fits_17 rfl (shC_28 _) rfl inX3 (by decide) rfl wd_271 rfl ?_
  refine Ok.aload_n (pc' := 21) rfl dX3_fits_20 rfl ?_
  refine Ok.getR (pc' := 24) (k := 0) dX3_fits_21 rfl (shC_28 _) rfl inX3 (by decide) rfl wd_271 rfl ?_
  refine Ok.iload_n (pc' := 25) rfl dX3_fits_24 rfl ?_
  refine Ok.callV (pc' := 28) (av := [pI call]) (rest := [pR 1]) dX3_fits_25 rfl (by decide) cvX3_fits_44 (shC_1 _) rfl rfl rfl (leb rfl) (leb rfl) K (fun r3 h3 K => ?_)
  show Ok shC 0 0 mX3_fits 28 [some (pR 28), some (pI call), some (pI r2), none, none, none] [pI r3, pR 1] h3 Post
  refine Ok.callV (pc' := 31) (av := [pI r3]) (rest := []) dX3_fits_28 rfl (by decide) cvX3_fits_35 (shC_1 _) rfl rfl rfl (leb rfl) (leb rfl) K (fun r4 h4 K => ?_)
  show Ok shC 0 0 mX3_fits 31 [some (pR 28), some (pI call), some (pI r2), none, none, none] [pI r4] h4 Post
  refine Ok.iload_n (pc' := 32) rfl dX3_fits_31 rfl ?_
  obtain ⟨q1, K⟩ := K
  refine Ok.iadd (pc' := 33) dX3_fits_32 rfl q1 ?_
  refine Ok.istore_n (pc' := 34) (ls' := [some (pR 28), some (pI call), some (pI r2), some (pI (r4 + r2)), none, none]) dX3_fits_33 rfl (by decide) rfl rfl ?_
  refine Ok.aload_n (pc' := 35) rfl dX3_fits_34 rfl ?_
  refine Ok.getR (pc' := 38) (k := 0) dX3_fits_35 rfl (shC_28 _) rfl inX3 (by decide) rfl wd_271 rfl ?_
  refine Ok.getRN (pc' := 41) (k := 0) dX3_fits_38 rfl (shC_1 _) rfl inX1 (by decide) rfl wd_190 rfl ?_
  refine Ok.getIN (pc' := 44) (z := h4.2.1 2 6) (k := 6) dX3_fits_41 rfl (shC_2 _) rfl inX5 (by decide) rfl rfl wd_132 rfl ?_
  refine Ok.aload_n (pc' := 45) rfl dX3_fits_44 rfl ?_
  refine Ok.iload_n (pc' := 46) rfl dX3_fits_45 rfl ?_
  refine Ok.callV (pc' := 49) (av := [pI call]) (rest := [pI (h4.2.1 2 6)]) dX3_fits_46 rfl (by decide) cvX3_fits_57 (shC_28 _) rfl rfl rfl (leb rfl) (leb rfl) K (fun r5 h5 K => ?_)
  show Ok shC 0 0 mX3_fits 49 [some (pR 28), some (pI call), some (pI r2), some (pI (r4 + r2)), none, none] [pI r5, pI (h4.2.1 2 6)] h5 Post
  obtain ⟨q2, K⟩ := K
  refine Ok.iadd (pc' := 50) dX3_fits_49 rfl q2 ?_
  refine Ok.iconst (pc' := 51) in_1 dX3_fits_50 rfl ?_
  obtain ⟨q3, K⟩ := K
  refine Ok.iadd (pc' := 52) dX3_fits_51 rfl q3 ?_
  refine Ok.istore (pc' := 54) (ls' := [some (pR 28), some (pI call), some (pI r2), some (pI (r4 + r2)), some (pI ((h4.2.1 2 6 + r5) + 1)), none]) dX3_fits_52 rfl (by decide) rfl rfl ?_
  refine Ok.aload_n (pc' := 55) rfl dX3_fits_54 rfl ?_
  refine Ok.getR (pc' := 58) (k := 0) dX3_fits_55 rfl (shC_28 _) rfl inX3 (by decide) rfl wd_271 rfl ?_
  refine Ok.iload_n (pc' := 59) rfl dX3_fits_58 rfl ?_
  refine Ok.callV (pc' := 62) (av := [pI call]) (rest := []) dX3_fits_59 rfl (by decide) cvX3_fits_60 (shC_1 _) rfl rfl rfl (leb rfl) (leb rfl) K (fun r6 h6 K => ?_)
  show Ok shC 0 0 mX3_fits 62 [some (pR 28), some (pI call), some (pI r2), some (pI (r4 + r2)), some (pI ((h4.2.1 2 6 + r5) + 1)), none] [pI r6] h6 Post
  refine Ok.aload_n (pc' := 63) rfl dX3_fits_62 rfl ?_
  refine Ok.iload_n (pc' := 64) rfl dX3_fits_63 rfl ?_
  refine Ok.iload_n (pc' := 65) rfl dX3_fits_64 rfl ?_
  refine Ok.callV (pc' := 68) (av := [pI call, pI r2]) (rest := [pI r6]) dX3_fits_65 rfl (by decide) cvX3_fits_63 (shC_28 _) rfl rfl rfl (leb rfl) (leb rfl) K (fun r7 h7 K => ?_)
  show Ok shC 0 0 mX3_fits 68 [some (pR 28), some (pI call), some (pI r2), some (pI (r4 + r2)), some (pI ((h4.2.1 2 6 + r5) + 1)), none] [pI r7, pI r6] h7 Post
  obtain ⟨q4, K⟩ := K
  refine Ok.iadd (pc' := 69) dX3_fits_68 rfl q4 ?_
  refine Ok.istore (pc' := 71) (ls' := [some (pR 28), some (pI call), some (pI r2), some (pI (r4 + r2)), some (pI ((h4.2.1 2 6 + r5) + 1)), some (pI (r6 + r7))]) dX3_fits_69 rfl (by decide) rfl rfl ?_
  refine Ok.iload (pc' := 73) rfl dX3_fits_71 rfl ?_
  refine Ok.sipush (pc' := 76) ⟨by decide, by decide⟩ dX3_fits_73 rfl ?_
  refine Ok.icmp_gt (tgt := 96) dX3_fits_76 rfl rfl (fun c5 => ?_) (fun c5 => ?_)
  · replace K := K.1 c5
    refine Ok.iconst (pc' := 97) in_0 dX3_fits_96 rfl ?_
    exact Ok.zret dX3_fits_97 rfl (by decide) (Or.inl rfl) K
  · replace K := K.2 c5
    refine Ok.iload_n (pc' := 80) rfl dX3_fits_79 rfl ?_
    refine Ok.bipush (pc' := 82) ⟨by decide, by decide⟩ dX3_fits_80 rfl ?_
    refine Ok.icmp_gt (tgt := 96) dX3_fits_82 rfl rfl (fun c6 => ?_) (fun c6 => ?_)
    · replace K := K.1 c6
      refine Ok.iconst (pc' := 97) in_0 dX3_fits_96 rfl ?_
      exact Ok.zret dX3_fits_97 rfl (by decide) (Or.inl rfl) K
    · replace K := K.2 c6
      refine Ok.iload (pc' := 87) rfl dX3_fits_85 rfl ?_
      refine Ok.bipush (pc' := 89) ⟨by decide, by decide⟩ dX3_fits_87 rfl ?_
      refine Ok.icmp_gt (tgt := 96) dX3_fits_89 rfl rfl (fun c7 => ?_) (fun c7 => ?_)
      · replace K := K.1 c7
        refine Ok.iconst (pc' := 97) in_0 dX3_fits_96 rfl ?_
        exact Ok.zret dX3_fits_97 rfl (by decide) (Or.inl rfl) K
      · replace K := K.2 c7
        refine Ok.iconst (pc' := 93) in_1 dX3_fits_92 rfl ?_
        refine Ok.goto (tgt := 97) dX3_fits_93 rfl ?_
        exact Ok.zret dX3_fits_97 rfl (by decide) (Or.inr rfl) K
theorem sX3_highWrittenOut_0 {call uses : Int} {h : Hp} {Post : Int → Hp → Prop}
    (K : Cl shC mX1_numberOf [pR 1, pI call] h (fun r1 h1 => inR ((uses + 1)) ∧ (Cl shC mX1_bodyOf [pR 1, pI r1] h1 (fun r2 h2 => Cl shC mX1_highOf [pR 1, pI r2] h2 (fun r3 h3 => inR (((uses + 1) + r3)) ∧ (Ok shC 0 0 mX3_highWrittenOut 33 [some (pR 28), some (pI call), none, some (pI r1), some (pI ((uses + 1) + r3)), some (pI 0)] [] h3 Post)))))) :
    Cl shC mX3_highWrittenOut [pR 28, pI call, pI uses] h Post := by
  show Ok shC 0 0 mX3_highWrittenOut 0 [some (pR 28), some (pI call), some (pI uses), none, none, none] [] h Post
  refine Ok.aload_n (pc' := 1) rfl dX3_highWrittenOut_0 rfl ?_
  refine Ok.getR (pc' := 4) (k := 0) dX3_highWrittenOut_1 rfl (shC_28 _) rfl inX3 (by decide) rfl wd_271 rfl ?_
  refine Ok.iload_n (pc' := 5) rfl dX3_highWrittenOut_4 rfl ?_
  refine Ok.callV (pc' := 8) (av := [pI call]) (rest := []) dX3_highWrittenOut_5 rfl (by decide) cvX3_highWrittenOut_28 (shC_1 _) rfl rfl rfl (leb rfl) (leb rfl) K (fun r1 h1 K => ?_)
  show Ok shC 0 0 mX3_highWrittenOut 8 [some (pR 28), some (pI call), some (pI uses), none, none, none] [pI r1] h1 Post
  refine Ok.istore_n (pc' := 9) (ls' := [some (pR 28), some (pI call), some (pI uses), some (pI r1), none, none]) dX3_highWrittenOut_8 rfl (by decide) rfl rfl ?_
  refine Ok.iload_n (pc' := 10) rfl dX3_highWrittenOut_9 rfl ?_
  refine Ok.iconst (pc' := 11) in_1 dX3_highWrittenOut_10 rfl ?_
  obtain ⟨q1, K⟩ := K
  refine Ok.iadd (pc' := 12) dX3_highWrittenOut_11 rfl q1 ?_
  refine Ok.aload_n (pc' := 13) rfl dX3_highWrittenOut_12 rfl ?_
  refine Ok.getR (pc' := 16) (k := 0) dX3_highWrittenOut_13 rfl (shC_28 _) rfl inX3 (by decide) rfl wd_271 rfl ?_
  refine Ok.aload_n (pc' := 17) rfl dX3_highWrittenOut_16 rfl ?_
  refine Ok.getR (pc' := 20) (k := 0) dX3_highWrittenOut_17 rfl (shC_28 _) rfl inX3 (by decide) rfl wd_271 rfl ?_
  refine Ok.iload_n (pc' := 21) rfl dX3_highWrittenOut_20 rfl ?_
  refine Ok.callV (pc' := 24) (av := [pI r1]) (rest := [pR 1, pI (uses + 1)]) dX3_highWrittenOut_21 rfl (by decide) cvX3_highWrittenOut_38 (shC_1 _) rfl rfl rfl (leb rfl) (leb rfl) K (fun r2 h2 K => ?_)
  show Ok shC 0 0 mX3_highWrittenOut 24 [some (pR 28), some (pI call), some (pI uses), some (pI r1), none, none] [pI r2, pR 1, pI (uses + 1)] h2 Post
  refine Ok.callV (pc' := 27) (av := [pI r2]) (rest := [pI (uses + 1)]) dX3_highWrittenOut_24 rfl (by decide) cvX3_highWrittenOut_67 (shC_1 _) rfl rfl rfl (leb rfl) (leb rfl) K (fun r3 h3 K => ?_)
  show Ok shC 0 0 mX3_highWrittenOut 27 [some (pR 28), some (pI call), some (pI uses), some (pI r1), none, none] [pI r3, pI (uses + 1)] h3 Post
  obtain ⟨q2, K⟩ := K
  refine Ok.iadd (pc' := 28) dX3_highWrittenOut_27 rfl q2 ?_
  refine Ok.istore (pc' := 30) (ls' := [some (pR 28), some (pI call), some (pI uses), some (pI r1), some (pI ((uses + 1) + r3)), none]) dX3_highWrittenOut_28 rfl (by decide) rfl rfl ?_
  refine Ok.iconst (pc' := 31) in_0 dX3_highWrittenOut_30 rfl ?_
  refine Ok.istore (pc' := 33) (ls' := [some (pR 28), some (pI call), some (pI uses), some (pI r1), some (pI ((uses + 1) + r3)), some (pI 0)]) dX3_highWrittenOut_31 rfl (by decide) rfl rfl ?_
  exact Ok.fl (ls' := [some (pR 28), some (pI call), none, some (pI r1), some (pI ((uses + 1) + r3)), some (pI 0)]) K ⟨rfl, rfl, rfl, rfl, rfl, trivial⟩
theorem sX3_highWrittenOut_33 {call v3 v4 v5 : Int} {h : Hp} {Post : Int → Hp → Prop}
    (K : Cl shC mX1_paramsOf [pR 1, pI v3] h (fun r1 h1 => ((r1 ≤ v5) → Post v4 h1) ∧ ((¬ r1 ≤ v5) → inR ((v5 + 2)) ∧ (Cl shC mX1_partOf [pR 1, pI call, pI v5] h1 (fun r2 h2 => Cl shC mX1_highOf [pR 1, pI r2] h2 (fun r3 h3 => inR (((v5 + 2) + r3)) ∧ (inR ((v5 + 1)) ∧ (Ok shC 0 0 mX3_highWrittenOut 33 [some (pR 28), some (pI call), none, some (pI v3), some (pI (max v4 ((v5 + 2) + r3))), some (pI (v5 + 1))] [] h3 Post)))))))) :
    Ok shC 0 0 mX3_highWrittenOut 33 [some (pR 28), some (pI call), none, some (pI v3), some (pI v4), some (pI v5)] [] h Post := by
  show Ok shC 0 0 mX3_highWrittenOut 33 [some (pR 28), some (pI call), none, some (pI v3), some (pI v4), some (pI v5)] [] h Post
  refine Ok.iload (pc' := 35) rfl dX3_highWrittenOut_33 rfl ?_
  refine Ok.aload_n (pc' := 36) rfl dX3_highWrittenOut_35 rfl ?_
  refine Ok.getR (pc' := 39) (k := 0) dX3_highWrittenOut_36 rfl (shC_28 _) rfl inX3 (by decide) rfl wd_271 rfl ?_
  refine Ok.iload_n (pc' := 40) rfl dX3_highWrittenOut_39 rfl ?_
  refine Ok.callV (pc' := 43) (av := [pI v3]) (rest := [pI v5]) dX3_highWrittenOut_40 rfl (by decide) cvX3_highWrittenOut_32 (shC_1 _) rfl rfl rfl (leb rfl) (leb rfl) K (fun r1 h1 K => ?_)
  show Ok shC 0 0 mX3_highWrittenOut 43 [some (pR 28), some (pI call), none, some (pI v3), some (pI v4), some (pI v5)] [pI r1, pI v5] h1 Post
  refine Ok.icmp_ge (tgt := 81) dX3_highWrittenOut_43 rfl rfl (fun c1 => ?_) (fun c1 => ?_)
  · replace K := K.1 c1
    refine Ok.iload (pc' := 83) rfl dX3_highWrittenOut_81 rfl ?_
    exact Ok.iret dX3_highWrittenOut_83 rfl (by decide) K
  · replace K := K.2 c1
    refine Ok.iload (pc' := 48) rfl dX3_highWrittenOut_46 rfl ?_
    refine Ok.iload (pc' := 50) rfl dX3_highWrittenOut_48 rfl ?_
    refine Ok.iconst (pc' := 51) in_2 dX3_highWrittenOut_50 rfl ?_
    obtain ⟨q2, K⟩ := K
    refine Ok.iadd (pc' := 52) dX3_highWrittenOut_51 rfl q2 ?_
    refine Ok.aload_n (pc' := 53) rfl dX3_highWrittenOut_52 rfl ?_
    refine Ok.getR (pc' := 56) (k := 0) dX3_highWrittenOut_53 rfl (shC_28 _) rfl inX3 (by decide) rfl wd_271 rfl ?_
    refine Ok.aload_n (pc' := 57) rfl dX3_highWrittenOut_56 rfl ?_
    refine Ok.getR (pc' := 60) (k := 0) dX3_highWrittenOut_57 rfl (shC_28 _) rfl inX3 (by decide) rfl wd_271 rfl ?_
    refine Ok.iload_n (pc' := 61) rfl dX3_highWrittenOut_60 rfl ?_
    refine Ok.iload (pc' := 63) rfl dX3_highWrittenOut_61 rfl ?_
    refine Ok.callV (pc' := 66) (av := [pI call, pI v5]) (rest := [pR 1, pI (v5 + 2), pI v4]) dX3_highWrittenOut_63 rfl (by decide) cvX3_highWrittenOut_70 (shC_1 _) rfl rfl rfl (leb rfl) (leb rfl) K (fun r2 h2 K => ?_)
    show Ok shC 0 0 mX3_highWrittenOut 66 [some (pR 28), some (pI call), none, some (pI v3), some (pI v4), some (pI v5)] [pI r2, pR 1, pI (v5 + 2), pI v4] h2 Post
    refine Ok.callV (pc' := 69) (av := [pI r2]) (rest := [pI (v5 + 2), pI v4]) dX3_highWrittenOut_66 rfl (by decide) cvX3_highWrittenOut_67 (shC_1 _) rfl rfl rfl (leb rfl) (leb rfl) K (fun r3 h3 K => ?_)
    show Ok shC 0 0 mX3_highWrittenOut 69 [some (pR 28), some (pI call), none, some (pI v3), some (pI v4), some (pI v5)] [pI r3, pI (v5 + 2), pI v4] h3 Post
    obtain ⟨q3, K⟩ := K
    refine Ok.iadd (pc' := 70) dX3_highWrittenOut_69 rfl q3 ?_
    refine Ok.mmax (pc' := 73) dX3_highWrittenOut_70 rfl (by decide) mwX3_highWrittenOut_73 (by decide) (leb rfl) ?_
    refine Ok.istore (pc' := 75) (ls' := [some (pR 28), some (pI call), none, some (pI v3), some (pI (max v4 ((v5 + 2) + r3))), some (pI v5)]) dX3_highWrittenOut_73 rfl (by decide) rfl rfl ?_
    obtain ⟨q4, K⟩ := K
    refine Ok.iinc (pc' := 78) (ls' := [some (pR 28), some (pI call), none, some (pI v3), some (pI (max v4 ((v5 + 2) + r3))), some (pI (v5 + 1))]) dX3_highWrittenOut_75 rfl rfl (by decide) rfl rfl q4 ?_
    refine Ok.goto (tgt := 33) dX3_highWrittenOut_78 rfl ?_
    exact K
theorem sX3_writeOut_0 {call : Int} {h : Hp} {Post : Int → Hp → Prop}
    (K : Cl shC mX1_numberOf [pR 1, pI call] h (fun r1 h1 => Cl shC mX1_usesOf [pR 1, pI r1] h1 (fun r2 h2 => Cl shC mX1_paramsOf [pR 1, pI r1] h2 (fun r3 h3 => Cl shC mX1_routineOf [pR 1, pI call] h3 (fun r4 h4 => Cl shC mX1_usesOf [pR 1, pI r4] h4 (fun r5 h5 => Cl shC mX1_bodyOf [pR 1, pI r1] h5 (fun r6 h6 => Cl shC mX6_over [pR 14, pR 2, pI r6] h6 (fun _ h7 => Ok shC 0 0 mX3_writeOut 78 [some (pR 28), some (pI call), none, some (pI r2), some (pI r3), some (pI r5), some (pI (-4)), some (pI (-4)), some (pI 0), none, none] [] h7 Post)))))))) :
    Cl shC mX3_writeOut [pR 28, pI call] h Post := by
  show Ok shC 0 0 mX3_writeOut 0 [some (pR 28), some (pI call), none, none, none, none, none, none, none, none, none] [] h Post
  refine Ok.aload_n (pc' := 1) rfl dX3_writeOut_0 rfl ?_
  refine Ok.getR (pc' := 4) (k := 0) dX3_writeOut_1 rfl (shC_28 _) rfl inX3 (by decide) rfl wd_271 rfl ?_
  refine Ok.iload_n (pc' := 5) rfl dX3_writeOut_4 rfl ?_
  refine Ok.callV (pc' := 8) (av := [pI call]) (rest := []) dX3_writeOut_5 rfl (by decide) cvX3_writeOut_28 (shC_1 _) rfl rfl rfl (leb rfl) (leb rfl) K (fun r1 h1 K => ?_)
  show Ok shC 0 0 mX3_writeOut 8 [some (pR 28), some (pI call), none, none, none, none, none, none, none, none, none] [pI r1] h1 Post
  refine Ok.istore_n (pc' := 9) (ls' := [some (pR 28), some (pI call), some (pI r1), none, none, none, none, none, none, none, none]) dX3_writeOut_8 rfl (by decide) rfl rfl ?_
  refine Ok.aload_n (pc' := 10) rfl dX3_writeOut_9 rfl ?_
  refine Ok.getR (pc' := 13) (k := 0) dX3_writeOut_10 rfl (shC_28 _) rfl inX3 (by decide) rfl wd_271 rfl ?_
  refine Ok.iload_n (pc' := 14) rfl dX3_writeOut_13 rfl ?_
  refine Ok.callV (pc' := 17) (av := [pI r1]) (rest := []) dX3_writeOut_14 rfl (by decide) cvX3_writeOut_35 (shC_1 _) rfl rfl rfl (leb rfl) (leb rfl) K (fun r2 h2 K => ?_)
  show Ok shC 0 0 mX3_writeOut 17 [some (pR 28), some (pI call), some (pI r1), none, none, none, none, none, none, none, none] [pI r2] h2 Post
  refine Ok.istore_n (pc' := 18) (ls' := [some (pR 28), some (pI call), some (pI r1), some (pI r2), none, none, none, none, none, none, none]) dX3_writeOut_17 rfl (by decide) rfl rfl ?_
  refine Ok.aload_n (pc' := 19) rfl dX3_writeOut_18 rfl ?_
  refine Ok.getR (pc' := 22) (k := 0) dX3_writeOut_19 rfl (shC_28 _) rfl inX3 (by decide) rfl wd_271 rfl ?_
  refine Ok.iload_n (pc' := 23) rfl dX3_writeOut_22 rfl ?_
  refine Ok.callV (pc' := 26) (av := [pI r1]) (rest := []) dX3_writeOut_23 rfl (by decide) cvX3_writeOut_32 (shC_1 _) rfl rfl rfl (leb rfl) (leb rfl) K (fun r3 h3 K => ?_)
  show Ok shC 0 0 mX3_writeOut 26 [some (pR 28), some (pI call), some (pI r1), some (pI r2), none, none, none, none, none, none, none] [pI r3] h3 Post
  refine Ok.istore (pc' := 28) (ls' := [some (pR 28), some (pI call), some (pI r1), some (pI r2), some (pI r3), none, none, none, none, none, none]) dX3_writeOut_26 rfl (by decide) rfl rfl ?_
  refine Ok.aload_n (pc' := 29) rfl dX3_writeOut_28 rfl ?_
  refine Ok.getR (pc' := 32) (k := 0) dX3_writeOut_29 rfl (shC_28 _) rfl inX3 (by decide) rfl wd_271 rfl ?_
  refine Ok.aload_n (pc' := 33) rfl dX3_writeOut_32 rfl ?_
  refine Ok.getR (pc' := 36) (k := 0) dX3_writeOut_33 rfl (shC_28 _) rfl inX3 (by decide) rfl wd_271 rfl ?_
  refine Ok.iload_n (pc' := 37) rfl dX3_writeOut_36 rfl ?_
  refine Ok.callV (pc' := 40) (av := [pI call]) (rest := [pR 1]) dX3_writeOut_37 rfl (by decide) cvX3_writeOut_44 (shC_1 _) rfl rfl rfl (leb rfl) (leb rfl) K (fun r4 h4 K => ?_)
  show Ok shC 0 0 mX3_writeOut 40 [some (pR 28), some (pI call), some (pI r1), some (pI r2), some (pI r3), none, none, none, none, none, none] [pI r4, pR 1] h4 Post
  refine Ok.callV (pc' := 43) (av := [pI r4]) (rest := []) dX3_writeOut_40 rfl (by decide) cvX3_writeOut_35 (shC_1 _) rfl rfl rfl (leb rfl) (leb rfl) K (fun r5 h5 K => ?_)
  show Ok shC 0 0 mX3_writeOut 43 [some (pR 28), some (pI call), some (pI r1), some (pI r2), some (pI r3), none, none, none, none, none, none] [pI r5] h5 Post
  refine Ok.istore (pc' := 45) (ls' := [some (pR 28), some (pI call), some (pI r1), some (pI r2), some (pI r3), some (pI r5), none, none, none, none, none]) dX3_writeOut_43 rfl (by decide) rfl rfl ?_
  refine Ok.aload_n (pc' := 46) rfl dX3_writeOut_45 rfl ?_
  refine Ok.getR (pc' := 49) (k := 1) dX3_writeOut_46 rfl (shC_28 _) rfl inX3 (by decide) rfl wd_272 rfl ?_
  refine Ok.aload_n (pc' := 50) rfl dX3_writeOut_49 rfl ?_
  refine Ok.getR (pc' := 53) (k := 0) dX3_writeOut_50 rfl (shC_28 _) rfl inX3 (by decide) rfl wd_271 rfl ?_
  refine Ok.getRN (pc' := 56) (k := 0) dX3_writeOut_53 rfl (shC_1 _) rfl inX1 (by decide) rfl wd_190 rfl ?_
  refine Ok.aload_n (pc' := 57) rfl dX3_writeOut_56 rfl ?_
  refine Ok.getR (pc' := 60) (k := 0) dX3_writeOut_57 rfl (shC_28 _) rfl inX3 (by decide) rfl wd_271 rfl ?_
  refine Ok.iload_n (pc' := 61) rfl dX3_writeOut_60 rfl ?_
  refine Ok.callV (pc' := 64) (av := [pI r1]) (rest := [pR 2, pR 14]) dX3_writeOut_61 rfl (by decide) cvX3_writeOut_38 (shC_1 _) rfl rfl rfl (leb rfl) (leb rfl) K (fun r6 h6 K => ?_)
  show Ok shC 0 0 mX3_writeOut 64 [some (pR 28), some (pI call), some (pI r1), some (pI r2), some (pI r3), some (pI r5), none, none, none, none, none] [pI r6, pR 2, pR 14] h6 Post
  refine Ok.callV (pc' := 67) (av := [pR 2, pI r6]) (rest := []) dX3_writeOut_64 rfl (by decide) cvX3_writeOut_78 (shC_14 _) rfl rfl rfl (leb rfl) (leb rfl) K (fun r_ h7 K => ?_)
  show Ok shC 0 0 mX3_writeOut 67 [some (pR 28), some (pI call), some (pI r1), some (pI r2), some (pI r3), some (pI r5), none, none, none, none, none] [] h7 Post
  refine Ok.bipush (pc' := 69) ⟨by decide, by decide⟩ dX3_writeOut_67 rfl ?_
  refine Ok.istore (pc' := 71) (ls' := [some (pR 28), some (pI call), some (pI r1), some (pI r2), some (pI r3), some (pI r5), some (pI (-4)), none, none, none, none]) dX3_writeOut_69 rfl (by decide) rfl rfl ?_
  refine Ok.bipush (pc' := 73) ⟨by decide, by decide⟩ dX3_writeOut_71 rfl ?_
  refine Ok.istore (pc' := 75) (ls' := [some (pR 28), some (pI call), some (pI r1), some (pI r2), some (pI r3), some (pI r5), some (pI (-4)), some (pI (-4)), none, none, none]) dX3_writeOut_73 rfl (by decide) rfl rfl ?_
  refine Ok.iconst (pc' := 76) in_0 dX3_writeOut_75 rfl ?_
  refine Ok.istore (pc' := 78) (ls' := [some (pR 28), some (pI call), some (pI r1), some (pI r2), some (pI r3), some (pI r5), some (pI (-4)), some (pI (-4)), some (pI 0), none, none]) dX3_writeOut_76 rfl (by decide) rfl rfl ?_
  exact Ok.fl (ls' := [some (pR 28), some (pI call), none, some (pI r2), some (pI r3), some (pI r5), some (pI (-4)), some (pI (-4)), some (pI 0), none, none]) K ⟨rfl, rfl, rfl, rfl, rfl, rfl, rfl, rfl, trivial⟩
theorem sX3_writeOut_78 {call v3 v4 v5 v6 v7 v8 : Int} {h : Hp} {Post : Int → Hp → Prop}
    (K : ((v3 ≤ v8) → Cl shC mX1_add [pR 1, pI 11, pI 0] h (fun r1 h1 => Cl shC mX1_append [pR 1, pI v7, pI r1] h1 (fun _ h2 => Cl shC mX3_writeOff [pR 28, pI r1, pI v5] h2 (fun _ h3 => ((¬ v3 = 0) → Cl shC mX1_takePlace [pR 1, pI call, pI v6] h3 (fun _ h4 => Cl shC mX1_endTree [pR 1, pI call] h4 (fun _ h5 => Post v6 h5))) ∧ ((v3 = 0) → Cl shC mX1_takePlace [pR 1, pI call, pI r1] h3 (fun _ h6 => Cl shC mX1_endTree [pR 1, pI call] h6 (fun _ h7 => Post r1 h7))))))) ∧ ((¬ v3 ≤ v8) → Cl shC mX1_add [pR 1, pI 5, pI 0] h (fun r8 h8 => inR ((v5 + v8)) ∧ (Cl shC mX1_add [pR 1, pI 4, pI (v5 + v8)] h8 (fun r9 h9 => Cl shC mX1_append [pR 1, pI r8, pI r9] h9 (fun _ h10 => ((v4 ≤ v8) → Cl shC mX3_moveOrZero [pR 28, pI r9, pI (-4)] h10 (fun _ h11 => Cl shC mX1_append [pR 1, pI v7, pI r8] h11 (fun _ h12 => ((¬ v8 = 0) → inR ((v8 + 1)) ∧ (Ok shC 0 0 mX3_writeOut 78 [some (pR 28), some (pI call), none, some (pI v3), some (pI v4), some (pI v5), some (pI v6), some (pI r8), some (pI (v8 + 1)), none, none] [] h12 Post)) ∧ ((v8 = 0) → inR ((v8 + 1)) ∧ (Ok shC 0 0 mX3_writeOut 78 [some (pR 28), some (pI call), none, some (pI v3), some (pI v4), some (pI v5), some (pI r8), some (pI r8), some (pI (v8 + 1)), none, none] [] h12 Post))))) ∧ ((¬ v4 ≤ v8) → Cl shC mX1_partOf [pR 1, pI call, pI v8] h10 (fun r13 h13 => Cl shC mX3_moveOrZero [pR 28, pI r9, pI r13] h13 (fun _ h14 => Cl shC mX1_append [pR 1, pI v7, pI r8] h14 (fun _ h15 => ((¬ v8 = 0) → inR ((v8 + 1)) ∧ (Ok shC 0 0 mX3_writeOut 78 [some (pR 28), some (pI call), none, some (pI v3), some (pI v4), some (pI v5), some (pI v6), some (pI r8), some (pI (v8 + 1)), none, none] [] h15 Post)) ∧ ((v8 = 0) → inR ((v8 + 1)) ∧ (Ok shC 0 0 mX3_writeOut 78 [some (pR 28), some (pI call), none, some (pI v3), some (pI v4), some (pI v5), some (pI r8), some (pI r8), some (pI (v8 + 1)), none, none] [] h15 Post)))))))))))) :
    Ok shC 0 0 mX3_writeOut 78 [some (pR 28), some (pI call), none, some (pI v3), some (pI v4), some (pI v5), some (pI v6), some (pI v7), some (pI v8), none, none] [] h Post := by
  show Ok shC 0 0 mX3_writeOut 78 [some (pR 28), some (pI call), none, some (pI v3), some (pI v4), some (pI v5), some (pI v6), some (pI v7), some (pI v8), none, none] [] h Post
  refine Ok.iload (pc' := 80) rfl dX3_writeOut_78 rfl ?_
  refine Ok.iload_n (pc' := 81) rfl dX3_writeOut_80 rfl ?_
  refine Ok.icmp_ge (tgt := 184) dX3_writeOut_81 rfl rfl (fun c1 => ?_) (fun c1 => ?_)
  · replace K := K.1 c1
    refine Ok.aload_n (pc' := 185) rfl dX3_writeOut_184 rfl ?_
    refine Ok.getR (pc' := 188) (k := 0) dX3_writeOut_185 rfl (shC_28 _) rfl inX3 (by decide) rfl wd_271 rfl ?_
    refine Ok.bipush (pc' := 190) ⟨by decide, by decide⟩ dX3_writeOut_188 rfl ?_
    refine Ok.iconst (pc' := 191) in_0 dX3_writeOut_190 rfl ?_
    refine Ok.callV (pc' := 194) (av := [pI 11, pI 0]) (rest := []) dX3_writeOut_191 rfl (by decide) cvX3_writeOut_84 (shC_1 _) rfl rfl rfl (leb rfl) (leb rfl) K (fun r1 h1 K => ?_)
    show Ok shC 0 0 mX3_writeOut 194 [some (pR 28), some (pI call), none, some (pI v3), some (pI v4), some (pI v5), some (pI v6), some (pI v7), some (pI v8), none, none] [pI r1] h1 Post
    refine Ok.istore (pc' := 196) (ls' := [some (pR 28), some (pI call), none, some (pI v3), some (pI v4), some (pI v5), some (pI v6), some (pI v7), some (pI r1), none, none]) dX3_writeOut_194 rfl (by decide) rfl rfl ?_
    refine Ok.aload_n (pc' := 197) rfl dX3_writeOut_196 rfl ?_
    refine Ok.getR (pc' := 200) (k := 0) dX3_writeOut_197 rfl (shC_28 _) rfl inX3 (by decide) rfl wd_271 rfl ?_
    refine Ok.iload (pc' := 202) rfl dX3_writeOut_200 rfl ?_
    refine Ok.iload (pc' := 204) rfl dX3_writeOut_202 rfl ?_
    refine Ok.callV (pc' := 207) (av := [pI v7, pI r1]) (rest := []) dX3_writeOut_204 rfl (by decide) cvX3_writeOut_87 (shC_1 _) rfl rfl rfl (leb rfl) (leb rfl) K (fun r_ h2 K => ?_)
    show Ok shC 0 0 mX3_writeOut 207 [some (pR 28), some (pI call), none, some (pI v3), some (pI v4), some (pI v5), some (pI v6), some (pI v7), some (pI r1), none, none] [] h2 Post
    refine Ok.aload_n (pc' := 208) rfl dX3_writeOut_207 rfl ?_
    refine Ok.iload (pc' := 210) rfl dX3_writeOut_208 rfl ?_
    refine Ok.iload (pc' := 212) rfl dX3_writeOut_210 rfl ?_
    refine Ok.callV (pc' := 215) (av := [pI r1, pI v5]) (rest := []) dX3_writeOut_212 rfl (by decide) cvX3_writeOut_94 (shC_28 _) rfl rfl rfl (leb rfl) (leb rfl) K (fun r_ h3 K => ?_)
    show Ok shC 0 0 mX3_writeOut 215 [some (pR 28), some (pI call), none, some (pI v3), some (pI v4), some (pI v5), some (pI v6), some (pI v7), some (pI r1), none, none] [] h3 Post
    refine Ok.iload_n (pc' := 216) rfl dX3_writeOut_215 rfl ?_
    refine Ok.if_ne (tgt := 224) dX3_writeOut_216 rfl rfl (fun c2 => ?_) (fun c2 => ?_)
    · replace K := K.1 c2
      refine Ok.iload (pc' := 226) rfl dX3_writeOut_224 rfl ?_
      refine Ok.istore (pc' := 228) (ls' := [some (pR 28), some (pI call), none, some (pI v3), some (pI v4), some (pI v5), some (pI v6), some (pI v7), some (pI r1), none, none]) dX3_writeOut_226 rfl (by decide) rfl rfl ?_
      refine Ok.aload_n (pc' := 229) rfl dX3_writeOut_228 rfl ?_
      refine Ok.getR (pc' := 232) (k := 0) dX3_writeOut_229 rfl (shC_28 _) rfl inX3 (by decide) rfl wd_271 rfl ?_
      refine Ok.iload_n (pc' := 233) rfl dX3_writeOut_232 rfl ?_
      refine Ok.iload (pc' := 235) rfl dX3_writeOut_233 rfl ?_
      refine Ok.callV (pc' := 238) (av := [pI call, pI v6]) (rest := []) dX3_writeOut_235 rfl (by decide) cvX3_writeOut_97 (shC_1 _) rfl rfl rfl (leb rfl) (leb rfl) K (fun r_ h4 K => ?_)
      show Ok shC 0 0 mX3_writeOut 238 [some (pR 28), some (pI call), none, some (pI v3), some (pI v4), some (pI v5), some (pI v6), some (pI v7), some (pI r1), none, none] [] h4 Post
      refine Ok.aload_n (pc' := 239) rfl dX3_writeOut_238 rfl ?_
      refine Ok.getR (pc' := 242) (k := 0) dX3_writeOut_239 rfl (shC_28 _) rfl inX3 (by decide) rfl wd_271 rfl ?_
      refine Ok.iload_n (pc' := 243) rfl dX3_writeOut_242 rfl ?_
      refine Ok.callV (pc' := 246) (av := [pI call]) (rest := []) dX3_writeOut_243 rfl (by decide) cvX3_writeOut_100 (shC_1 _) rfl rfl rfl (leb rfl) (leb rfl) K (fun r_ h5 K => ?_)
      show Ok shC 0 0 mX3_writeOut 246 [some (pR 28), some (pI call), none, some (pI v3), some (pI v4), some (pI v5), some (pI v6), some (pI v7), some (pI r1), none, none] [] h5 Post
      refine Ok.iload (pc' := 248) rfl dX3_writeOut_246 rfl ?_
      exact Ok.iret dX3_writeOut_248 rfl (by decide) K
    · replace K := K.2 c2
      refine Ok.iload (pc' := 221) rfl dX3_writeOut_219 rfl ?_
      refine Ok.goto (tgt := 226) dX3_writeOut_221 rfl ?_
      refine Ok.istore (pc' := 228) (ls' := [some (pR 28), some (pI call), none, some (pI v3), some (pI v4), some (pI v5), some (pI r1), some (pI v7), some (pI r1), none, none]) dX3_writeOut_226 rfl (by decide) rfl rfl ?_
      refine Ok.aload_n (pc' := 229) rfl dX3_writeOut_228 rfl ?_
      refine Ok.getR (pc' := 232) (k := 0) dX3_writeOut_229 rfl (shC_28 _) rfl inX3 (by decide) rfl wd_271 rfl ?_
      refine Ok.iload_n (pc' := 233) rfl dX3_writeOut_232 rfl ?_
      refine Ok.iload (pc' := 235) rfl dX3_writeOut_233 rfl ?_
      refine Ok.callV (pc' := 238) (av := [pI call, pI r1]) (rest := []) dX3_writeOut_235 rfl (by decide) cvX3_writeOut_97 (shC_1 _) rfl rfl rfl (leb rfl) (leb rfl) K (fun r_ h6 K => ?_)
      show Ok shC 0 0 mX3_writeOut 238 [some (pR 28), some (pI call), none, some (pI v3), some (pI v4), some (pI v5), some (pI r1), some (pI v7), some (pI r1), none, none] [] h6 Post
      refine Ok.aload_n (pc' := 239) rfl dX3_writeOut_238 rfl ?_
      refine Ok.getR (pc' := 242) (k := 0) dX3_writeOut_239 rfl (shC_28 _) rfl inX3 (by decide) rfl wd_271 rfl ?_
      refine Ok.iload_n (pc' := 243) rfl dX3_writeOut_242 rfl ?_
      refine Ok.callV (pc' := 246) (av := [pI call]) (rest := []) dX3_writeOut_243 rfl (by decide) cvX3_writeOut_100 (shC_1 _) rfl rfl rfl (leb rfl) (leb rfl) K (fun r_ h7 K => ?_)
      show Ok shC 0 0 mX3_writeOut 246 [some (pR 28), some (pI call), none, some (pI v3), some (pI v4), some (pI v5), some (pI r1), some (pI v7), some (pI r1), none, none] [] h7 Post
      refine Ok.iload (pc' := 248) rfl dX3_writeOut_246 rfl ?_
      exact Ok.iret dX3_writeOut_248 rfl (by decide) K
  · replace K := K.2 c1
    refine Ok.aload_n (pc' := 85) rfl dX3_writeOut_84 rfl ?_
    refine Ok.getR (pc' := 88) (k := 0) dX3_writeOut_85 rfl (shC_28 _) rfl inX3 (by decide) rfl wd_271 rfl ?_
    refine Ok.iconst (pc' := 89) in_5 dX3_writeOut_88 rfl ?_
    refine Ok.iconst (pc' := 90) in_0 dX3_writeOut_89 rfl ?_
    refine Ok.callV (pc' := 93) (av := [pI 5, pI 0]) (rest := []) dX3_writeOut_90 rfl (by decide) cvX3_writeOut_84 (shC_1 _) rfl rfl rfl (leb rfl) (leb rfl) K (fun r8 h8 K => ?_)
    show Ok shC 0 0 mX3_writeOut 93 [some (pR 28), some (pI call), none, some (pI v3), some (pI v4), some (pI v5), some (pI v6), some (pI v7), some (pI v8), none, none] [pI r8] h8 Post
    refine Ok.istore (pc' := 95) (ls' := [some (pR 28), some (pI call), none, some (pI v3), some (pI v4), some (pI v5), some (pI v6), some (pI v7), some (pI v8), some (pI r8), none]) dX3_writeOut_93 rfl (by decide) rfl rfl ?_
    refine Ok.aload_n (pc' := 96) rfl dX3_writeOut_95 rfl ?_
    refine Ok.getR (pc' := 99) (k := 0) dX3_writeOut_96 rfl (shC_28 _) rfl inX3 (by decide) rfl wd_271 rfl ?_
    refine Ok.iconst (pc' := 100) in_4 dX3_writeOut_99 rfl ?_
    refine Ok.iload (pc' := 102) rfl dX3_writeOut_100 rfl ?_
    refine Ok.iload (pc' := 104) rfl dX3_writeOut_102 rfl ?_
    obtain ⟨q2, K⟩ := K
    refine Ok.iadd (pc' := 105) dX3_writeOut_104 rfl q2 ?_
    refine Ok.callV (pc' := 108) (av := [pI 4, pI (v5 + v8)]) (rest := []) dX3_writeOut_105 rfl (by decide) cvX3_writeOut_84 (shC_1 _) rfl rfl rfl (leb rfl) (leb rfl) K (fun r9 h9 K => ?_)
    show Ok shC 0 0 mX3_writeOut 108 [some (pR 28), some (pI call), none, some (pI v3), some (pI v4), some (pI v5), some (pI v6), some (pI v7), some (pI v8), some (pI r8), none] [pI r9] h9 Post
    refine Ok.istore (pc' := 110) (ls' := [some (pR 28), some (pI call), none, some (pI v3), some (pI v4), some (pI v5), some (pI v6), some (pI v7), some (pI v8), some (pI r8), some (pI r9)]) dX3_writeOut_108 rfl (by decide) rfl rfl ?_
    refine Ok.aload_n (pc' := 111) rfl dX3_writeOut_110 rfl ?_
    refine Ok.getR (pc' := 114) (k := 0) dX3_writeOut_111 rfl (shC_28 _) rfl inX3 (by decide) rfl wd_271 rfl ?_
    refine Ok.iload (pc' := 116) rfl dX3_writeOut_114 rfl ?_
    refine Ok.iload (pc' := 118) rfl dX3_writeOut_116 rfl ?_
    refine Ok.callV (pc' := 121) (av := [pI r8, pI r9]) (rest := []) dX3_writeOut_118 rfl (by decide) cvX3_writeOut_87 (shC_1 _) rfl rfl rfl (leb rfl) (leb rfl) K (fun r_ h10 K => ?_)
    show Ok shC 0 0 mX3_writeOut 121 [some (pR 28), some (pI call), none, some (pI v3), some (pI v4), some (pI v5), some (pI v6), some (pI v7), some (pI v8), some (pI r8), some (pI r9)] [] h10 Post
    refine Ok.aload_n (pc' := 122) rfl dX3_writeOut_121 rfl ?_
    refine Ok.iload (pc' := 124) rfl dX3_writeOut_122 rfl ?_
    refine Ok.iload (pc' := 126) rfl dX3_writeOut_124 rfl ?_
    refine Ok.iload (pc' := 128) rfl dX3_writeOut_126 rfl ?_
    refine Ok.icmp_ge (tgt := 144) dX3_writeOut_128 rfl rfl (fun c3 => ?_) (fun c3 => ?_)
    · replace K := K.1 c3
      refine Ok.bipush (pc' := 146) ⟨by decide, by decide⟩ dX3_writeOut_144 rfl ?_
      refine Ok.callV (pc' := 149) (av := [pI r9, pI (-4)]) (rest := []) dX3_writeOut_146 rfl (by decide) cvX3_writeOut_91 (shC_28 _) rfl rfl rfl (leb rfl) (leb rfl) K (fun r_ h11 K => ?_)
      show Ok shC 0 0 mX3_writeOut 149 [some (pR 28), some (pI call), none, some (pI v3), some (pI v4), some (pI v5), some (pI v6), some (pI v7), some (pI v8), some (pI r8), some (pI r9)] [] h11 Post
      refine Ok.aload_n (pc' := 150) rfl dX3_writeOut_149 rfl ?_
      refine Ok.getR (pc' := 153) (k := 0) dX3_writeOut_150 rfl (shC_28 _) rfl inX3 (by decide) rfl wd_271 rfl ?_
      refine Ok.iload (pc' := 155) rfl dX3_writeOut_153 rfl ?_
      refine Ok.iload (pc' := 157) rfl dX3_writeOut_155 rfl ?_
      refine Ok.callV (pc' := 160) (av := [pI v7, pI r8]) (rest := []) dX3_writeOut_157 rfl (by decide) cvX3_writeOut_87 (shC_1 _) rfl rfl rfl (leb rfl) (leb rfl) K (fun r_ h12 K => ?_)
      show Ok shC 0 0 mX3_writeOut 160 [some (pR 28), some (pI call), none, some (pI v3), some (pI v4), some (pI v5), some (pI v6), some (pI v7), some (pI v8), some (pI r8), some (pI r9)] [] h12 Post
      refine Ok.iload (pc' := 162) rfl dX3_writeOut_160 rfl ?_
      refine Ok.if_ne (tgt := 170) dX3_writeOut_162 rfl rfl (fun c4 => ?_) (fun c4 => ?_)
      · replace K := K.1 c4
        refine Ok.iload (pc' := 172) rfl dX3_writeOut_170 rfl ?_
        refine Ok.istore (pc' := 174) (ls' := [some (pR 28), some (pI call), none, some (pI v3), some (pI v4), some (pI v5), some (pI v6), some (pI v7), some (pI v8), some (pI r8), some (pI r9)]) dX3_writeOut_172 rfl (by decide) rfl rfl ?_
        refine Ok.iload (pc' := 176) rfl dX3_writeOut_174 rfl ?_
        refine Ok.istore (pc' := 178) (ls' := [some (pR 28), some (pI call), none, some (pI v3), some (pI v4), some (pI v5), some (pI v6), some (pI r8), some (pI v8), some (pI r8), some (pI r9)]) dX3_writeOut_176 rfl (by decide) rfl rfl ?_
        obtain ⟨q5, K⟩ := K
        refine Ok.iinc (pc' := 181) (ls' := [some (pR 28), some (pI call), none, some (pI v3), some (pI v4), some (pI v5), some (pI v6), some (pI r8), some (pI (v8 + 1)), some (pI r8), some (pI r9)]) dX3_writeOut_178 rfl rfl (by decide) rfl rfl q5 ?_
        refine Ok.goto (tgt := 78) dX3_writeOut_181 rfl ?_
        exact Ok.fl (ls' := [some (pR 28), some (pI call), none, some (pI v3), some (pI v4), some (pI v5), some (pI v6), some (pI r8), some (pI (v8 + 1)), none, none]) K ⟨rfl, rfl, rfl, rfl, rfl, rfl, rfl, rfl, trivial⟩
      · replace K := K.2 c4
        refine Ok.iload (pc' := 167) rfl dX3_writeOut_165 rfl ?_
        refine Ok.goto (tgt := 172) dX3_writeOut_167 rfl ?_
        refine Ok.istore (pc' := 174) (ls' := [some (pR 28), some (pI call), none, some (pI v3), some (pI v4), some (pI v5), some (pI r8), some (pI v7), some (pI v8), some (pI r8), some (pI r9)]) dX3_writeOut_172 rfl (by decide) rfl rfl ?_
        refine Ok.iload (pc' := 176) rfl dX3_writeOut_174 rfl ?_
        refine Ok.istore (pc' := 178) (ls' := [some (pR 28), some (pI call), none, some (pI v3), some (pI v4), some (pI v5), some (pI r8), some (pI r8), some (pI v8), some (pI r8), some (pI r9)]) dX3_writeOut_176 rfl (by decide) rfl rfl ?_
        obtain ⟨q5, K⟩ := K
        refine Ok.iinc (pc' := 181) (ls' := [some (pR 28), some (pI call), none, some (pI v3), some (pI v4), some (pI v5), some (pI r8), some (pI r8), some (pI (v8 + 1)), some (pI r8), some (pI r9)]) dX3_writeOut_178 rfl rfl (by decide) rfl rfl q5 ?_
        refine Ok.goto (tgt := 78) dX3_writeOut_181 rfl ?_
        exact Ok.fl (ls' := [some (pR 28), some (pI call), none, some (pI v3), some (pI v4), some (pI v5), some (pI r8), some (pI r8), some (pI (v8 + 1)), none, none]) K ⟨rfl, rfl, rfl, rfl, rfl, rfl, rfl, rfl, trivial⟩
    · replace K := K.2 c3
      refine Ok.aload_n (pc' := 132) rfl dX3_writeOut_131 rfl ?_
      refine Ok.getR (pc' := 135) (k := 0) dX3_writeOut_132 rfl (shC_28 _) rfl inX3 (by decide) rfl wd_271 rfl ?_
      refine Ok.iload_n (pc' := 136) rfl dX3_writeOut_135 rfl ?_
      refine Ok.iload (pc' := 138) rfl dX3_writeOut_136 rfl ?_
      refine Ok.callV (pc' := 141) (av := [pI call, pI v8]) (rest := [pI r9, pR 28]) dX3_writeOut_138 rfl (by decide) cvX3_writeOut_70 (shC_1 _) rfl rfl rfl (leb rfl) (leb rfl) K (fun r13 h13 K => ?_)
      show Ok shC 0 0 mX3_writeOut 141 [some (pR 28), some (pI call), none, some (pI v3), some (pI v4), some (pI v5), some (pI v6), some (pI v7), some (pI v8), some (pI r8), some (pI r9)] [pI r13, pI r9, pR 28] h13 Post
      refine Ok.goto (tgt := 146) dX3_writeOut_141 rfl ?_
      refine Ok.callV (pc' := 149) (av := [pI r9, pI r13]) (rest := []) dX3_writeOut_146 rfl (by decide) cvX3_writeOut_91 (shC_28 _) rfl rfl rfl (leb rfl) (leb rfl) K (fun r_ h14 K => ?_)
      show Ok shC 0 0 mX3_writeOut 149 [some (pR 28), some (pI call), none, some (pI v3), some (pI v4), some (pI v5), some (pI v6), some (pI v7), some (pI v8), some (pI r8), some (pI r9)] [] h14 Post
      refine Ok.aload_n (pc' := 150) rfl dX3_writeOut_149 rfl ?_
      refine Ok.getR (pc' := 153) (k := 0) dX3_writeOut_150 rfl (shC_28 _) rfl inX3 (by decide) rfl wd_271 rfl ?_
      refine Ok.iload (pc' := 155) rfl dX3_writeOut_153 rfl ?_
      refine Ok.iload (pc' := 157) rfl dX3_writeOut_155 rfl ?_
      refine Ok.callV (pc' := 160) (av := [pI v7, pI r8]) (rest := []) dX3_writeOut_157 rfl (by decide) cvX3_writeOut_87 (shC_1 _) rfl rfl rfl (leb rfl) (leb rfl) K (fun r_ h15 K => ?_)
      show Ok shC 0 0 mX3_writeOut 160 [some (pR 28), some (pI call), none, some (pI v3), some (pI v4), some (pI v5), some (pI v6), some (pI v7), some (pI v8), some (pI r8), some (pI r9)] [] h15 Post
      refine Ok.iload (pc' := 162) rfl dX3_writeOut_160 rfl ?_
      refine Ok.if_ne (tgt := 170) dX3_writeOut_162 rfl rfl (fun c4 => ?_) (fun c4 => ?_)
      · replace K := K.1 c4
        refine Ok.iload (pc' := 172) rfl dX3_writeOut_170 rfl ?_
        refine Ok.istore (pc' := 174) (ls' := [some (pR 28), some (pI call), none, some (pI v3), some (pI v4), some (pI v5), some (pI v6), some (pI v7), some (pI v8), some (pI r8), some (pI r9)]) dX3_writeOut_172 rfl (by decide) rfl rfl ?_
        refine Ok.iload (pc' := 176) rfl dX3_writeOut_174 rfl ?_
        refine Ok.istore (pc' := 178) (ls' := [some (pR 28), some (pI call), none, some (pI v3), some (pI v4), some (pI v5), some (pI v6), some (pI r8), some (pI v8), some (pI r8), some (pI r9)]) dX3_writeOut_176 rfl (by decide) rfl rfl ?_
        obtain ⟨q5, K⟩ := K
        refine Ok.iinc (pc' := 181) (ls' := [some (pR 28), some (pI call), none, some (pI v3), some (pI v4), some (pI v5), some (pI v6), some (pI r8), some (pI (v8 + 1)), some (pI r8), some (pI r9)]) dX3_writeOut_178 rfl rfl (by decide) rfl rfl q5 ?_
        refine Ok.goto (tgt := 78) dX3_writeOut_181 rfl ?_
        exact Ok.fl (ls' := [some (pR 28), some (pI call), none, some (pI v3), some (pI v4), some (pI v5), some (pI v6), some (pI r8), some (pI (v8 + 1)), none, none]) K ⟨rfl, rfl, rfl, rfl, rfl, rfl, rfl, rfl, trivial⟩
      · replace K := K.2 c4
        refine Ok.iload (pc' := 167) rfl dX3_writeOut_165 rfl ?_
        refine Ok.goto (tgt := 172) dX3_writeOut_167 rfl ?_
        refine Ok.istore (pc' := 174) (ls' := [some (pR 28), some (pI call), none, some (pI v3), some (pI v4), some (pI v5), some (pI r8), some (pI v7), some (pI v8), some (pI r8), some (pI r9)]) dX3_writeOut_172 rfl (by decide) rfl rfl ?_
        refine Ok.iload (pc' := 176) rfl dX3_writeOut_174 rfl ?_
        refine Ok.istore (pc' := 178) (ls' := [some (pR 28), some (pI call), none, some (pI v3), some (pI v4), some (pI v5), some (pI r8), some (pI r8), some (pI v8), some (pI r8), some (pI r9)]) dX3_writeOut_176 rfl (by decide) rfl rfl ?_
        obtain ⟨q5, K⟩ := K
        refine Ok.iinc (pc' := 181) (ls' := [some (pR 28), some (pI call), none, some (pI v3), some (pI v4), some (pI v5), some (pI r8), some (pI r8), some (pI (v8 + 1)), some (pI r8), some (pI r9)]) dX3_writeOut_178 rfl rfl (by decide) rfl rfl q5 ?_
        refine Ok.goto (tgt := 78) dX3_writeOut_181 rfl ?_
        exact Ok.fl (ls' := [some (pR 28), some (pI call), none, some (pI v3), some (pI v4), some (pI v5), some (pI r8), some (pI r8), some (pI (v8 + 1)), none, none]) K ⟨rfl, rfl, rfl, rfl, rfl, rfl, rfl, rfl, trivial⟩
theorem sX3_moveOrZero_0 {set0 part : Int} {h : Hp} {Post : Int → Hp → Prop}
    (K : ((¬ part = (-4)) → Cl shC mX1_loosen [pR 1, pI part] h (fun _ h1 => Cl shC mX1_append [pR 1, pI set0, pI part] h1 (fun _ h2 => Post 0 h2))) ∧ ((part = (-4)) → Cl shC mX1_add [pR 1, pI 0, pI 0] h (fun r3 h3 => Cl shC mX1_append [pR 1, pI set0, pI r3] h3 (fun _ h4 => Post 0 h4)))) :
    Cl shC mX3_moveOrZero [pR 28, pI set0, pI part] h Post := by
  show Ok shC 0 0 mX3_moveOrZero 0 [some (pR 28), some (pI set0), some (pI part)] [] h Post
  refine Ok.iload_n (pc' := 1) rfl dX3_moveOrZero_0 rfl ?_
  refine Ok.bipush (pc' := 3) ⟨by decide, by decide⟩ dX3_moveOrZero_1 rfl ?_
  refine Ok.icmp_ne (tgt := 26) dX3_moveOrZero_3 rfl rfl (fun c1 => ?_) (fun c1 => ?_)
  · replace K := K.1 c1
    refine Ok.aload_n (pc' := 27) rfl dX3_moveOrZero_26 rfl ?_
    refine Ok.getR (pc' := 30) (k := 0) dX3_moveOrZero_27 rfl (shC_28 _) rfl inX3 (by decide) rfl wd_271 rfl ?_
    refine Ok.iload_n (pc' := 31) rfl dX3_moveOrZero_30 rfl ?_
    refine Ok.callV (pc' := 34) (av := [pI part]) (rest := []) dX3_moveOrZero_31 rfl (by decide) cvX3_moveOrZero_104 (shC_1 _) rfl rfl rfl (leb rfl) (leb rfl) K (fun r_ h1 K => ?_)
    show Ok shC 0 0 mX3_moveOrZero 34 [some (pR 28), some (pI set0), some (pI part)] [] h1 Post
    refine Ok.aload_n (pc' := 35) rfl dX3_moveOrZero_34 rfl ?_
    refine Ok.getR (pc' := 38) (k := 0) dX3_moveOrZero_35 rfl (shC_28 _) rfl inX3 (by decide) rfl wd_271 rfl ?_
    refine Ok.iload_n (pc' := 39) rfl dX3_moveOrZero_38 rfl ?_
    refine Ok.iload_n (pc' := 40) rfl dX3_moveOrZero_39 rfl ?_
    refine Ok.callV (pc' := 43) (av := [pI set0, pI part]) (rest := []) dX3_moveOrZero_40 rfl (by decide) cvX3_moveOrZero_87 (shC_1 _) rfl rfl rfl (leb rfl) (leb rfl) K (fun r_ h2 K => ?_)
    show Ok shC 0 0 mX3_moveOrZero 43 [some (pR 28), some (pI set0), some (pI part)] [] h2 Post
    exact Ok.vret dX3_moveOrZero_43 rfl (by decide) K
  · replace K := K.2 c1
    refine Ok.aload_n (pc' := 7) rfl dX3_moveOrZero_6 rfl ?_
    refine Ok.getR (pc' := 10) (k := 0) dX3_moveOrZero_7 rfl (shC_28 _) rfl inX3 (by decide) rfl wd_271 rfl ?_
    refine Ok.iload_n (pc' := 11) rfl dX3_moveOrZero_10 rfl ?_
    refine Ok.aload_n (pc' := 12) rfl dX3_moveOrZero_11 rfl ?_
    refine Ok.getR (pc' := 15) (k := 0) dX3_moveOrZero_12 rfl (shC_28 _) rfl inX3 (by decide) rfl wd_271 rfl ?_
    refine Ok.iconst (pc' := 16) in_0 dX3_moveOrZero_15 rfl ?_
    refine Ok.iconst (pc' := 17) in_0 dX3_moveOrZero_16 rfl ?_
    refine Ok.callV (pc' := 20) (av := [pI 0, pI 0]) (rest := [pI set0, pR 1]) dX3_moveOrZero_17 rfl (by decide) cvX3_moveOrZero_84 (shC_1 _) rfl rfl rfl (leb rfl) (leb rfl) K (fun r3 h3 K => ?_)
    show Ok shC 0 0 mX3_moveOrZero 20 [some (pR 28), some (pI set0), some (pI part)] [pI r3, pI set0, pR 1] h3 Post
    refine Ok.callV (pc' := 23) (av := [pI set0, pI r3]) (rest := []) dX3_moveOrZero_20 rfl (by decide) cvX3_moveOrZero_87 (shC_1 _) rfl rfl rfl (leb rfl) (leb rfl) K (fun r_ h4 K => ?_)
    show Ok shC 0 0 mX3_moveOrZero 23 [some (pR 28), some (pI set0), some (pI part)] [] h4 Post
    refine Ok.goto (tgt := 43) dX3_moveOrZero_23 rfl ?_
    exact Ok.vret dX3_moveOrZero_43 rfl (by decide) K
theorem sX3_writeOff_0 {block shift : Int} {h : Hp} {Post : Int → Hp → Prop}
    (K : Ok shC 0 0 mX3_writeOff 9 [some (pR 28), none, some (pI shift), some (pI 0), none, none, none, none, none] [] (hA h 29 0 block) Post) :
    Cl shC mX3_writeOff [pR 28, pI block, pI shift] h Post := by
  show Ok shC 0 0 mX3_writeOff 0 [some (pR 28), some (pI block), some (pI shift), none, none, none, none, none, none] [] h Post
  refine Ok.aload_n (pc' := 1) rfl dX3_writeOff_0 rfl ?_
  refine Ok.getR (pc' := 4) (k := 2) dX3_writeOff_1 rfl (shC_28 _) rfl inX3 (by decide) rfl wd_273 rfl ?_
  refine Ok.iconst (pc' := 5) in_0 dX3_writeOff_4 rfl ?_
  refine Ok.iload_n (pc' := 6) rfl dX3_writeOff_5 rfl ?_
  refine Ok.iast (pc' := 7) dX3_writeOff_6 rfl (shC_29 _) (by decide) rfl (by decide) ?_
  refine Ok.iconst (pc' := 8) in_0 dX3_writeOff_7 rfl ?_
  refine Ok.istore_n (pc' := 9) (ls' := [some (pR 28), some (pI block), some (pI shift), some (pI 0), none, none, none, none, none]) dX3_writeOff_8 rfl (by decide) rfl rfl ?_
  exact Ok.fl (ls' := [some (pR 28), none, some (pI shift), some (pI 0), none, none, none, none, none]) K ⟨rfl, rfl, rfl, trivial⟩
theorem sX3_writeOff_9 {shift v3 : Int} {h : Hp} {Post : Int → Hp → Prop}
    (K : ((h.2.1 14 4 ≤ v3) → Post 0 h) ∧ ((¬ h.2.1 14 4 ≤ v3) → ∃ k2 : Nat, v3 = (k2 : Int) ∧ k2 < 600 ∧ (Cl shC mX1_kindOf [pR 1, pI (h.1 15 k2)] h (fun r1 h1 => ((r1 = 1) → Cl shC mX1_numberOf [pR 1, pI (h.1 15 k2)] h1 (fun r2 h2 => inR ((r2 + shift)) ∧ (Cl shC mX1_add [pR 1, pI r1, pI (r2 + shift)] h2 (fun r3 h3 => ((h.1 16 k2 ≤ 0) → inR ((v3 + 1)) ∧ (Ok shC 0 0 mX3_writeOff 9 [some (pR 28), none, some (pI shift), some (pI (v3 + 1)), none, none, none, none, none] [] h3 Post)) ∧ ((¬ h.1 16 k2 ≤ 0) → ((40 < h.1 16 k2) → inR ((v3 + 1)) ∧ (Ok shC 0 0 mX3_writeOff 9 [some (pR 28), none, some (pI shift), some (pI (v3 + 1)), none, none, none, none, none] [] h3 Post)) ∧ ((¬ 40 < h.1 16 k2) → inR ((h.1 16 k2 - 1)) ∧ (∃ k8 : Nat, (h.1 16 k2 - 1) = (k8 : Int) ∧ k8 < 41 ∧ (Cl shC mX1_append [pR 1, pI (h3.1 29 k8), pI r3] h3 (fun _ h4 => ∃ k9 : Nat, h.1 16 k2 = (k9 : Int) ∧ k9 < 41 ∧ (inR ((v3 + 1)) ∧ (Ok shC 0 0 mX3_writeOff 9 [some (pR 28), none, some (pI shift), some (pI (v3 + 1)), none, none, none, none, none] [] (hA h4 29 k9 r3) Post))))))))))) ∧ ((¬ r1 = 1) → ((¬ r1 = 4) → Cl shC mX1_numberOf [pR 1, pI (h.1 15 k2)] h1 (fun r5 h5 => inR ((r5 + 0)) ∧ (Cl shC mX1_add [pR 1, pI r1, pI (r5 + 0)] h5 (fun r6 h6 => ((h.1 16 k2 ≤ 0) → inR ((v3 + 1)) ∧ (Ok shC 0 0 mX3_writeOff 9 [some (pR 28), none, some (pI shift), some (pI (v3 + 1)), none, none, none, none, none] [] h6 Post)) ∧ ((¬ h.1 16 k2 ≤ 0) → ((40 < h.1 16 k2) → inR ((v3 + 1)) ∧ (Ok shC 0 0 mX3_writeOff 9 [some (pR 28), none, some (pI shift), some (pI (v3 + 1)), none, none, none, none, none] [] h6 Post)) ∧ ((¬ 40 < h.1 16 k2) → inR ((h.1 16 k2 - 1)) ∧ (∃ k9 : Nat, (h.1 16 k2 - 1) = (k9 : Int) ∧ k9 < 41 ∧ (Cl shC mX1_append [pR 1, pI (h6.1 29 k9), pI r6] h6 (fun _ h7 => ∃ k10 : Nat, h.1 16 k2 = (k10 : Int) ∧ k10 < 41 ∧ (inR ((v3 + 1)) ∧ (Ok shC 0 0 mX3_writeOff 9 [some (pR 28), none, some (pI shift), some (pI (v3 + 1)), none, none, none, none, none] [] (hA h7 29 k10 r6) Post))))))))))) ∧ ((r1 = 4) → Cl shC mX1_numberOf [pR 1, pI (h.1 15 k2)] h1 (fun r8 h8 => inR ((r8 + shift)) ∧ (Cl shC mX1_add [pR 1, pI r1, pI (r8 + shift)] h8 (fun r9 h9 => ((h.1 16 k2 ≤ 0) → inR ((v3 + 1)) ∧ (Ok shC 0 0 mX3_writeOff 9 [some (pR 28), none, some (pI shift), some (pI (v3 + 1)), none, none, none, none, none] [] h9 Post)) ∧ ((¬ h.1 16 k2 ≤ 0) → ((40 < h.1 16 k2) → inR ((v3 + 1)) ∧ (Ok shC 0 0 mX3_writeOff 9 [some (pR 28), none, some (pI shift), some (pI (v3 + 1)), none, none, none, none, none] [] h9 Post)) ∧ ((¬ 40 < h.1 16 k2) → inR ((h.1 16 k2 - 1)) ∧ (∃ k9 : Nat, (h.1 16 k2 - 1) = (k9 : Int) ∧ k9 < 41 ∧ (Cl shC mX1_append [pR 1, pI (h9.1 29 k9), pI r9] h9 (fun _ h10 => ∃ k10 : Nat, h.1 16 k2 = (k10 : Int) ∧ k10 < 41 ∧ (inR ((v3 + 1)) ∧ (Ok shC 0 0 mX3_writeOff 9 [some (pR 28), none, some (pI shift), some (pI (v3 + 1)), none, none, none, none, none] [] (hA h10 29 k10 r9) Post)))))))))))))))) :
    Ok shC 0 0 mX3_writeOff 9 [some (pR 28), none, some (pI shift), some (pI v3), none, none, none, none, none] [] h Post := by
  show Ok shC 0 0 mX3_writeOff 9 [some (pR 28), none, some (pI shift), some (pI v3), none, none, none, none, none] [] h Post
  refine Ok.iload_n (pc' := 10) rfl dX3_writeOff_9 rfl ?_
  refine Ok.aload_n (pc' := 11) rfl dX3_writeOff_10 rfl ?_
  refine Ok.getR (pc' := 14) (k := 1) dX3_writeOff_11 rfl (shC_28 _) rfl inX3 (by decide) rfl wd_272 rfl ?_
  refine Ok.getIN (pc' := 17) (z := h.2.1 14 4) (k := 4) dX3_writeOff_14 rfl (shC_14 _) rfl inX6 (by decide) rfl rfl wd_175 rfl ?_
  refine Ok.icmp_ge (tgt := 148) dX3_writeOff_17 rfl rfl (fun c1 => ?_) (fun c1 => ?_)
  · replace K := K.1 c1
    exact Ok.vret dX3_writeOff_148 rfl (by decide) K
  · replace K := K.2 c1
    refine Ok.aload_n (pc' := 21) rfl dX3_writeOff_20 rfl ?_
    refine Ok.getR (pc' := 24) (k := 1) dX3_writeOff_21 rfl (shC_28 _) rfl inX3 (by decide) rfl wd_272 rfl ?_
    refine Ok.getRN (pc' := 27) (k := 0) dX3_writeOff_24 rfl (shC_14 _) rfl inX6 (by decide) rfl wd_165 rfl ?_
    refine Ok.iload_n (pc' := 28) rfl dX3_writeOff_27 rfl ?_
    obtain ⟨k2, e2, q2, K⟩ := K
    refine Ok.iald (pc' := 29) (z := h.1 15 k2) dX3_writeOff_28 rfl (shC_15 _) (by decide) e2 q2 rfl ?_
    refine Ok.istore (pc' := 31) (ls' := [some (pR 28), none, some (pI shift), some (pI v3), some (pI (h.1 15 k2)), none, none, none, none]) dX3_writeOff_29 rfl (by decide) rfl rfl ?_
    refine Ok.aload_n (pc' := 32) rfl dX3_writeOff_31 rfl ?_
    refine Ok.getR (pc' := 35) (k := 1) dX3_writeOff_32 rfl (shC_28 _) rfl inX3 (by decide) rfl wd_272 rfl ?_
    refine Ok.getRN (pc' := 38) (k := 1) dX3_writeOff_35 rfl (shC_14 _) rfl inX6 (by decide) rfl wd_168 rfl ?_
    refine Ok.iload_n (pc' := 39) rfl dX3_writeOff_38 rfl ?_
    refine Ok.iald (pc' := 40) (z := h.1 16 k2) dX3_writeOff_39 rfl (shC_16 _) (by decide) e2 q2 rfl ?_
    refine Ok.istore (pc' := 42) (ls' := [some (pR 28), none, some (pI shift), some (pI v3), some (pI (h.1 15 k2)), some (pI (h.1 16 k2)), none, none, none]) dX3_writeOff_40 rfl (by decide) rfl rfl ?_
    refine Ok.aload_n (pc' := 43) rfl dX3_writeOff_42 rfl ?_
    refine Ok.getR (pc' := 46) (k := 0) dX3_writeOff_43 rfl (shC_28 _) rfl inX3 (by decide) rfl wd_271 rfl ?_
    refine Ok.iload (pc' := 48) rfl dX3_writeOff_46 rfl ?_
    refine Ok.callV (pc' := 51) (av := [pI (h.1 15 k2)]) (rest := []) dX3_writeOff_48 rfl (by decide) cvX3_writeOff_116 (shC_1 _) rfl rfl rfl (leb rfl) (leb rfl) K (fun r1 h1 K => ?_)
    show Ok shC 0 0 mX3_writeOff 51 [some (pR 28), none, some (pI shift), some (pI v3), some (pI (h.1 15 k2)), some (pI (h.1 16 k2)), none, none, none] [pI r1] h1 Post
    refine Ok.istore (pc' := 53) (ls' := [some (pR 28), none, some (pI shift), some (pI v3), some (pI (h.1 15 k2)), some (pI (h.1 16 k2)), some (pI r1), none, none]) dX3_writeOff_51 rfl (by decide) rfl rfl ?_
    refine Ok.iload (pc' := 55) rfl dX3_writeOff_53 rfl ?_
    refine Ok.iconst (pc' := 56) in_1 dX3_writeOff_55 rfl ?_
    refine Ok.icmp_eq (tgt := 65) dX3_writeOff_56 rfl rfl (fun c3 => ?_) (fun c3 => ?_)
    · replace K := K.1 c3
      refine Ok.iconst (pc' := 66) in_1 dX3_writeOff_65 rfl ?_
      refine Ok.goto (tgt := 70) dX3_writeOff_66 rfl ?_
      refine Ok.istore (pc' := 72) (ls' := [some (pR 28), none, some (pI shift), some (pI v3), some (pI (h.1 15 k2)), some (pI (h.1 16 k2)), some (pI r1), some (pI 1), none]) dX3_writeOff_70 rfl (by decide) rfl rfl ?_
      refine Ok.aload_n (pc' := 73) rfl dX3_writeOff_72 rfl ?_
      refine Ok.getR (pc' := 76) (k := 0) dX3_writeOff_73 rfl (shC_28 _) rfl inX3 (by decide) rfl wd_271 rfl ?_
      refine Ok.iload (pc' := 78) rfl dX3_writeOff_76 rfl ?_
      refine Ok.aload_n (pc' := 79) rfl dX3_writeOff_78 rfl ?_
      refine Ok.getR (pc' := 82) (k := 0) dX3_writeOff_79 rfl (shC_28 _) rfl inX3 (by decide) rfl wd_271 rfl ?_
      refine Ok.iload (pc' := 84) rfl dX3_writeOff_82 rfl ?_
      refine Ok.callV (pc' := 87) (av := [pI (h.1 15 k2)]) (rest := [pI r1, pR 1]) dX3_writeOff_84 rfl (by decide) cvX3_writeOff_28 (shC_1 _) rfl rfl rfl (leb rfl) (leb rfl) K (fun r2 h2 K => ?_)
      show Ok shC 0 0 mX3_writeOff 87 [some (pR 28), none, some (pI shift), some (pI v3), some (pI (h.1 15 k2)), some (pI (h.1 16 k2)), some (pI r1), some (pI 1), none] [pI r2, pI r1, pR 1] h2 Post
      refine Ok.iload (pc' := 89) rfl dX3_writeOff_87 rfl ?_
      refine Ok.if_eq (tgt := 96) dX3_writeOff_89 rfl rfl (fun z => absurd z (by decide)) (fun _ => ?_)
      refine Ok.iload_n (pc' := 93) rfl dX3_writeOff_92 rfl ?_
      refine Ok.goto (tgt := 97) dX3_writeOff_93 rfl ?_
      obtain ⟨q4, K⟩ := K
      refine Ok.iadd (pc' := 98) dX3_writeOff_97 rfl q4 ?_
      refine Ok.callV (pc' := 101) (av := [pI r1, pI (r2 + shift)]) (rest := []) dX3_writeOff_98 rfl (by decide) cvX3_writeOff_84 (shC_1 _) rfl rfl rfl (leb rfl) (leb rfl) K (fun r3 h3 K => ?_)
      show Ok shC 0 0 mX3_writeOff 101 [some (pR 28), none, some (pI shift), some (pI v3), some (pI (h.1 15 k2)), some (pI (h.1 16 k2)), some (pI r1), some (pI 1), none] [pI r3] h3 Post
      refine Ok.istore (pc' := 103) (ls' := [some (pR 28), none, some (pI shift), some (pI v3), some (pI (h.1 15 k2)), some (pI (h.1 16 k2)), some (pI r1), some (pI 1), some (pI r3)]) dX3_writeOff_101 rfl (by decide) rfl rfl ?_
      refine Ok.iload (pc' := 105) rfl dX3_writeOff_103 rfl ?_
      refine Ok.if_le (tgt := 142) dX3_writeOff_105 rfl rfl (fun c5 => ?_) (fun c5 => ?_)
      · replace K := K.1 c5
        obtain ⟨q6, K⟩ := K
        refine Ok.iinc (pc' := 145) (ls' := [some (pR 28), none, some (pI shift), some (pI (v3 + 1)), some (pI (h.1 15 k2)), some (pI (h.1 16 k2)), some (pI r1), some (pI 1), some (pI r3)]) dX3_writeOff_142 rfl rfl (by decide) rfl rfl q6 ?_
        refine Ok.goto (tgt := 9) dX3_writeOff_145 rfl ?_
        exact Ok.fl (ls' := [some (pR 28), none, some (pI shift), some (pI (v3 + 1)), none, none, none, none, none]) K ⟨rfl, rfl, rfl, trivial⟩
      · replace K := K.2 c5
        refine Ok.iload (pc' := 110) rfl dX3_writeOff_108 rfl ?_
        refine Ok.bipush (pc' := 112) ⟨by decide, by decide⟩ dX3_writeOff_110 rfl ?_
        refine Ok.icmp_gt (tgt := 142) dX3_writeOff_112 rfl rfl (fun c6 => ?_) (fun c6 => ?_)
        · replace K := K.1 c6
          obtain ⟨q7, K⟩ := K
          refine Ok.iinc (pc' := 145) (ls' := [some (pR 28), none, some (pI shift), some (pI (v3 + 1)), some (pI (h.1 15 k2)), some (pI (h.1 16 k2)), some (pI r1), some (pI 1), some (pI r3)]) dX3_writeOff_142 rfl rfl (by decide) rfl rfl q7 ?_
          refine Ok.goto (tgt := 9) dX3_writeOff_145 rfl ?_
          exact Ok.fl (ls' := [some (pR 28), none, some (pI shift), some (pI (v3 + 1)), none, none, none, none, none]) K ⟨rfl, rfl, rfl, trivial⟩
        · replace K := K.2 c6
          refine Ok.aload_n (pc' := 116) rfl dX3_writeOff_115 rfl ?_
          refine Ok.getR (pc' := 119) (k := 0) dX3_writeOff_116 rfl (shC_28 _) rfl inX3 (by decide) rfl wd_271 rfl ?_
          refine Ok.aload_n (pc' := 120) rfl dX3_writeOff_119 rfl ?_
          refine Ok.getR (pc' := 123) (k := 2) dX3_writeOff_120 rfl (shC_28 _) rfl inX3 (by decide) rfl wd_273 rfl ?_
          refine Ok.iload (pc' := 125) rfl dX3_writeOff_123 rfl ?_
          refine Ok.iconst (pc' := 126) in_1 dX3_writeOff_125 rfl ?_
          obtain ⟨q7, K⟩ := K
          refine Ok.isub (pc' := 127) dX3_writeOff_126 rfl q7 ?_
          obtain ⟨k8, e8, q8, K⟩ := K
          refine Ok.iald (pc' := 128) (z := h3.1 29 k8) dX3_writeOff_127 rfl (shC_29 _) (by decide) e8 q8 rfl ?_
          refine Ok.iload (pc' := 130) rfl dX3_writeOff_128 rfl ?_
          refine Ok.callV (pc' := 133) (av := [pI (h3.1 29 k8), pI r3]) (rest := []) dX3_writeOff_130 rfl (by decide) cvX3_writeOff_87 (shC_1 _) rfl rfl rfl (leb rfl) (leb rfl) K (fun r_ h4 K => ?_)
          show Ok shC 0 0 mX3_writeOff 133 [some (pR 28), none, some (pI shift), some (pI v3), some (pI (h.1 15 k2)), some (pI (h.1 16 k2)), some (pI r1), some (pI 1), some (pI r3)] [] h4 Post
          refine Ok.aload_n (pc' := 134) rfl dX3_writeOff_133 rfl ?_
          refine Ok.getR (pc' := 137) (k := 2) dX3_writeOff_134 rfl (shC_28 _) rfl inX3 (by decide) rfl wd_273 rfl ?_
          refine Ok.iload (pc' := 139) rfl dX3_writeOff_137 rfl ?_
          refine Ok.iload (pc' := 141) rfl dX3_writeOff_139 rfl ?_
          obtain ⟨k9, e9, q9, K⟩ := K
          refine Ok.iast (pc' := 142) dX3_writeOff_141 rfl (shC_29 _) (by decide) e9 q9 ?_
          obtain ⟨q10, K⟩ := K
          refine Ok.iinc (pc' := 145) (ls' := [some (pR 28), none, some (pI shift), some (pI (v3 + 1)), some (pI (h.1 15 k2)), some (pI (h.1 16 k2)), some (pI r1), some (pI 1), some (pI r3)]) dX3_writeOff_142 rfl rfl (by decide) rfl rfl q10 ?_
          refine Ok.goto (tgt := 9) dX3_writeOff_145 rfl ?_
          exact Ok.fl (ls' := [some (pR 28), none, some (pI shift), some (pI (v3 + 1)), none, none, none, none, none]) K ⟨rfl, rfl, rfl, trivial⟩
    · replace K := K.2 c3
      refine Ok.iload (pc' := 61) rfl dX3_writeOff_59 rfl ?_
      refine Ok.iconst (pc' := 62) in_4 dX3_writeOff_61 rfl ?_
      refine Ok.icmp_ne (tgt := 69) dX3_writeOff_62 rfl rfl (fun c4 => ?_) (fun c4 => ?_)
      · replace K := K.1 c4
        refine Ok.iconst (pc' := 70) in_0 dX3_writeOff_69 rfl ?_
        refine Ok.istore (pc' := 72) (ls' := [some (pR 28), none, some (pI shift), some (pI v3), some (pI (h.1 15 k2)), some (pI (h.1 16 k2)), some (pI r1), some (pI 0), none]) dX3_writeOff_70 rfl (by decide) rfl rfl ?_
        refine Ok.aload_n (pc' := 73) rfl dX3_writeOff_72 rfl ?_
        refine Ok.getR (pc' := 76) (k := 0) dX3_writeOff_73 rfl (shC_28 _) rfl inX3 (by decide) rfl wd_271 rfl ?_
        refine Ok.iload (pc' := 78) rfl dX3_writeOff_76 rfl ?_
        refine Ok.aload_n (pc' := 79) rfl dX3_writeOff_78 rfl ?_
        refine Ok.getR (pc' := 82) (k := 0) dX3_writeOff_79 rfl (shC_28 _) rfl inX3 (by decide) rfl wd_271 rfl ?_
        refine Ok.iload (pc' := 84) rfl dX3_writeOff_82 rfl ?_
        refine Ok.callV (pc' := 87) (av := [pI (h.1 15 k2)]) (rest := [pI r1, pR 1]) dX3_writeOff_84 rfl (by decide) cvX3_writeOff_28 (shC_1 _) rfl rfl rfl (leb rfl) (leb rfl) K (fun r5 h5 K => ?_)
        show Ok shC 0 0 mX3_writeOff 87 [some (pR 28), none, some (pI shift), some (pI v3), some (pI (h.1 15 k2)), some (pI (h.1 16 k2)), some (pI r1), some (pI 0), none] [pI r5, pI r1, pR 1] h5 Post
        refine Ok.iload (pc' := 89) rfl dX3_writeOff_87 rfl ?_
        refine Ok.if_eq (tgt := 96) dX3_writeOff_89 rfl rfl (fun _ => ?_) (fun z => absurd (by decide) z)
        refine Ok.iconst (pc' := 97) in_0 dX3_writeOff_96 rfl ?_
        obtain ⟨q5, K⟩ := K
        refine Ok.iadd (pc' := 98) dX3_writeOff_97 rfl q5 ?_
        refine Ok.callV (pc' := 101) (av := [pI r1, pI (r5 + 0)]) (rest := []) dX3_writeOff_98 rfl (by decide) cvX3_writeOff_84 (shC_1 _) rfl rfl rfl (leb rfl) (leb rfl) K (fun r6 h6 K => ?_)
        show Ok shC 0 0 mX3_writeOff 101 [some (pR 28), none, some (pI shift), some (pI v3), some (pI (h.1 15 k2)), some (pI (h.1 16 k2)), some (pI r1), some (pI 0), none] [pI r6] h6 Post
        refine Ok.istore (pc' := 103) (ls' := [some (pR 28), none, some (pI shift), some (pI v3), some (pI (h.1 15 k2)), some (pI (h.1 16 k2)), some (pI r1), some (pI 0), some (pI r6)]) dX3_writeOff_101 rfl (by decide) rfl rfl ?_
        refine Ok.iload (pc' := 105) rfl dX3_writeOff_103 rfl ?_
        refine Ok.if_le (tgt := 142) dX3_writeOff_105 rfl rfl (fun c6 => ?_) (fun c6 => ?_)
        · replace K := K.1 c6
          obtain ⟨q7, K⟩ := K
          refine Ok.iinc (pc' := 145) (ls' := [some (pR 28), none, some (pI shift), some (pI (v3 + 1)), some (pI (h.1 15 k2)), some (pI (h.1 16 k2)), some (pI r1), some (pI 0), some (pI r6)]) dX3_writeOff_142 rfl rfl (by decide) rfl rfl q7 ?_
          refine Ok.goto (tgt := 9) dX3_writeOff_145 rfl ?_
          exact Ok.fl (ls' := [some (pR 28), none, some (pI shift), some (pI (v3 + 1)), none, none, none, none, none]) K ⟨rfl, rfl, rfl, trivial⟩
        · replace K := K.2 c6
          refine Ok.iload (pc' := 110) rfl dX3_writeOff_108 rfl ?_
          refine Ok.bipush (pc' := 112) ⟨by decide, by decide⟩ dX3_writeOff_110 rfl ?_
          refine Ok.icmp_gt (tgt := 142) dX3_writeOff_112 rfl rfl (fun c7 => ?_) (fun c7 => ?_)
          · replace K := K.1 c7
            obtain ⟨q8, K⟩ := K
            refine Ok.iinc (pc' := 145) (ls' := [some (pR 28), none, some (pI shift), some (pI (v3 + 1)), some (pI (h.1 15 k2)), some (pI (h.1 16 k2)), some (pI r1), some (pI 0), some (pI r6)]) dX3_writeOff_142 rfl rfl (by decide) rfl rfl q8 ?_
            refine Ok.goto (tgt := 9) dX3_writeOff_145 rfl ?_
            exact Ok.fl (ls' := [some (pR 28), none, some (pI shift), some (pI (v3 + 1)), none, none, none, none, none]) K ⟨rfl, rfl, rfl, trivial⟩
          · replace K := K.2 c7
            refine Ok.aload_n (pc' := 116) rfl dX3_writeOff_115 rfl ?_
            refine Ok.getR (pc' := 119) (k := 0) dX3_writeOff_116 rfl (shC_28 _) rfl inX3 (by decide) rfl wd_271 rfl ?_
            refine Ok.aload_n (pc' := 120) rfl dX3_writeOff_119 rfl ?_
            refine Ok.getR (pc' := 123) (k := 2) dX3_writeOff_120 rfl (shC_28 _) rfl inX3 (by decide) rfl wd_273 rfl ?_
            refine Ok.iload (pc' := 125) rfl dX3_writeOff_123 rfl ?_
            refine Ok.iconst (pc' := 126) in_1 dX3_writeOff_125 rfl ?_
            obtain ⟨q8, K⟩ := K
            refine Ok.isub (pc' := 127) dX3_writeOff_126 rfl q8 ?_
            obtain ⟨k9, e9, q9, K⟩ := K
            refine Ok.iald (pc' := 128) (z := h6.1 29 k9) dX3_writeOff_127 rfl (shC_29 _) (by decide) e9 q9 rfl ?_
            refine Ok.iload (pc' := 130) rfl dX3_writeOff_128 rfl ?_
            refine Ok.callV (pc' := 133) (av := [pI (h6.1 29 k9), pI r6]) (rest := []) dX3_writeOff_130 rfl (by decide) cvX3_writeOff_87 (shC_1 _) rfl rfl rfl (leb rfl) (leb rfl) K (fun r_ h7 K => ?_)
            show Ok shC 0 0 mX3_writeOff 133 [some (pR 28), none, some (pI shift), some (pI v3), some (pI (h.1 15 k2)), some (pI (h.1 16 k2)), some (pI r1), some (pI 0), some (pI r6)] [] h7 Post
            refine Ok.aload_n (pc' := 134) rfl dX3_writeOff_133 rfl ?_
            refine Ok.getR (pc' := 137) (k := 2) dX3_writeOff_134 rfl (shC_28 _) rfl inX3 (by decide) rfl wd_273 rfl ?_
            refine Ok.iload (pc' := 139) rfl dX3_writeOff_137 rfl ?_
            refine Ok.iload (pc' := 141) rfl dX3_writeOff_139 rfl ?_
            obtain ⟨k10, e10, q10, K⟩ := K
            refine Ok.iast (pc' := 142) dX3_writeOff_141 rfl (shC_29 _) (by decide) e10 q10 ?_
            obtain ⟨q11, K⟩ := K
            refine Ok.iinc (pc' := 145) (ls' := [some (pR 28), none, some (pI shift), some (pI (v3 + 1)), some (pI (h.1 15 k2)), some (pI (h.1 16 k2)), some (pI r1), some (pI 0), some (pI r6)]) dX3_writeOff_142 rfl rfl (by decide) rfl rfl q11 ?_
            refine Ok.goto (tgt := 9) dX3_writeOff_145 rfl ?_
            exact Ok.fl (ls' := [some (pR 28), none, some (pI shift), some (pI (v3 + 1)), none, none, none, none, none]) K ⟨rfl, rfl, rfl, trivial⟩
      · replace K := K.2 c4
        refine Ok.iconst (pc' := 66) in_1 dX3_writeOff_65 rfl ?_
        refine Ok.goto (tgt := 70) dX3_writeOff_66 rfl ?_
        refine Ok.istore (pc' := 72) (ls' := [some (pR 28), none, some (pI shift), some (pI v3), some (pI (h.1 15 k2)), some (pI (h.1 16 k2)), some (pI r1), some (pI 1), none]) dX3_writeOff_70 rfl (by decide) rfl rfl ?_
        refine Ok.aload_n (pc' := 73) rfl dX3_writeOff_72 rfl ?_
        refine Ok.getR (pc' := 76) (k := 0) dX3_writeOff_73 rfl (shC_28 _) rfl inX3 (by decide) rfl wd_271 rfl ?_
        refine Ok.iload (pc' := 78) rfl dX3_writeOff_76 rfl ?_
        refine Ok.aload_n (pc' := 79) rfl dX3_writeOff_78 rfl ?_
        refine Ok.getR (pc' := 82) (k := 0) dX3_writeOff_79 rfl (shC_28 _) rfl inX3 (by decide) rfl wd_271 rfl ?_
        refine Ok.iload (pc' := 84) rfl dX3_writeOff_82 rfl ?_
        refine Ok.callV (pc' := 87) (av := [pI (h.1 15 k2)]) (rest := [pI r1, pR 1]) dX3_writeOff_84 rfl (by decide) cvX3_writeOff_28 (shC_1 _) rfl rfl rfl (leb rfl) (leb rfl) K (fun r8 h8 K => ?_)
        show Ok shC 0 0 mX3_writeOff 87 [some (pR 28), none, some (pI shift), some (pI v3), some (pI (h.1 15 k2)), some (pI (h.1 16 k2)), some (pI r1), some (pI 1), none] [pI r8, pI r1, pR 1] h8 Post
        refine Ok.iload (pc' := 89) rfl dX3_writeOff_87 rfl ?_
        refine Ok.if_eq (tgt := 96) dX3_writeOff_89 rfl rfl (fun z => absurd z (by decide)) (fun _ => ?_)
        refine Ok.iload_n (pc' := 93) rfl dX3_writeOff_92 rfl ?_
        refine Ok.goto (tgt := 97) dX3_writeOff_93 rfl ?_
        obtain ⟨q5, K⟩ := K
        refine Ok.iadd (pc' := 98) dX3_writeOff_97 rfl q5 ?_
        refine Ok.callV (pc' := 101) (av := [pI r1, pI (r8 + shift)]) (rest := []) dX3_writeOff_98 rfl (by decide) cvX3_writeOff_84 (shC_1 _) rfl rfl rfl (leb rfl) (leb rfl) K (fun r9 h9 K => ?_)
        show Ok shC 0 0 mX3_writeOff 101 [some (pR 28), none, some (pI shift), some (pI v3), some (pI (h.1 15 k2)), some (pI (h.1 16 k2)), some (pI r1), some (pI 1), none] [pI r9] h9 Post
        refine Ok.istore (pc' := 103) (ls' := [some (pR 28), none, some (pI shift), some (pI v3), some (pI (h.1 15 k2)), some (pI (h.1 16 k2)), some (pI r1), some (pI 1), some (pI r9)]) dX3_writeOff_101 rfl (by decide) rfl rfl ?_
        refine Ok.iload (pc' := 105) rfl dX3_writeOff_103 rfl ?_
        refine Ok.if_le (tgt := 142) dX3_writeOff_105 rfl rfl (fun c6 => ?_) (fun c6 => ?_)
        · replace K := K.1 c6
          obtain ⟨q7, K⟩ := K
          refine Ok.iinc (pc' := 145) (ls' := [some (pR 28), none, some (pI shift), some (pI (v3 + 1)), some (pI (h.1 15 k2)), some (pI (h.1 16 k2)), some (pI r1), some (pI 1), some (pI r9)]) dX3_writeOff_142 rfl rfl (by decide) rfl rfl q7 ?_
          refine Ok.goto (tgt := 9) dX3_writeOff_145 rfl ?_
          exact Ok.fl (ls' := [some (pR 28), none, some (pI shift), some (pI (v3 + 1)), none, none, none, none, none]) K ⟨rfl, rfl, rfl, trivial⟩
        · replace K := K.2 c6
          refine Ok.iload (pc' := 110) rfl dX3_writeOff_108 rfl ?_
          refine Ok.bipush (pc' := 112) ⟨by decide, by decide⟩ dX3_writeOff_110 rfl ?_
          refine Ok.icmp_gt (tgt := 142) dX3_writeOff_112 rfl rfl (fun c7 => ?_) (fun c7 => ?_)
          · replace K := K.1 c7
            obtain ⟨q8, K⟩ := K
            refine Ok.iinc (pc' := 145) (ls' := [some (pR 28), none, some (pI shift), some (pI (v3 + 1)), some (pI (h.1 15 k2)), some (pI (h.1 16 k2)), some (pI r1), some (pI 1), some (pI r9)]) dX3_writeOff_142 rfl rfl (by decide) rfl rfl q8 ?_
            refine Ok.goto (tgt := 9) dX3_writeOff_145 rfl ?_
            exact Ok.fl (ls' := [some (pR 28), none, some (pI shift), some (pI (v3 + 1)), none, none, none, none, none]) K ⟨rfl, rfl, rfl, trivial⟩
          · replace K := K.2 c7
            refine Ok.aload_n (pc' := 116) rfl dX3_writeOff_115 rfl ?_
            refine Ok.getR (pc' := 119) (k := 0) dX3_writeOff_116 rfl (shC_28 _) rfl inX3 (by decide) rfl wd_271 rfl ?_
            refine Ok.aload_n (pc' := 120) rfl dX3_writeOff_119 rfl ?_
            refine Ok.getR (pc' := 123) (k := 2) dX3_writeOff_120 rfl (shC_28 _) rfl inX3 (by decide) rfl wd_273 rfl ?_
            refine Ok.iload (pc' := 125) rfl dX3_writeOff_123 rfl ?_
            refine Ok.iconst (pc' := 126) in_1 dX3_writeOff_125 rfl ?_
            obtain ⟨q8, K⟩ := K
            refine Ok.isub (pc' := 127) dX3_writeOff_126 rfl q8 ?_
            obtain ⟨k9, e9, q9, K⟩ := K
            refine Ok.iald (pc' := 128) (z := h9.1 29 k9) dX3_writeOff_127 rfl (shC_29 _) (by decide) e9 q9 rfl ?_
            refine Ok.iload (pc' := 130) rfl dX3_writeOff_128 rfl ?_
            refine Ok.callV (pc' := 133) (av := [pI (h9.1 29 k9), pI r9]) (rest := []) dX3_writeOff_130 rfl (by decide) cvX3_writeOff_87 (shC_1 _) rfl rfl rfl (leb rfl) (leb rfl) K (fun r_ h10 K => ?_)
            show Ok shC 0 0 mX3_writeOff 133 [some (pR 28), none, some (pI shift), some (pI v3), some (pI (h.1 15 k2)), some (pI (h.1 16 k2)), some (pI r1), some (pI 1), some (pI r9)] [] h10 Post
            refine Ok.aload_n (pc' := 134) rfl dX3_writeOff_133 rfl ?_
            refine Ok.getR (pc' := 137) (k := 2) dX3_writeOff_134 rfl (shC_28 _) rfl inX3 (by decide) rfl wd_273 rfl ?_
            refine Ok.iload (pc' := 139) rfl dX3_writeOff_137 rfl ?_
            refine Ok.iload (pc' := 141) rfl dX3_writeOff_139 rfl ?_
            obtain ⟨k10, e10, q10, K⟩ := K
            refine Ok.iast (pc' := 142) dX3_writeOff_141 rfl (shC_29 _) (by decide) e10 q10 ?_
            obtain ⟨q11, K⟩ := K
            refine Ok.iinc (pc' := 145) (ls' := [some (pR 28), none, some (pI shift), some (pI (v3 + 1)), some (pI (h.1 15 k2)), some (pI (h.1 16 k2)), some (pI r1), some (pI 1), some (pI r9)]) dX3_writeOff_142 rfl rfl (by decide) rfl rfl q11 ?_
            refine Ok.goto (tgt := 9) dX3_writeOff_145 rfl ?_
            exact Ok.fl (ls' := [some (pR 28), none, some (pI shift), some (pI (v3 + 1)), none, none, none, none, none]) K ⟨rfl, rfl, rfl, trivial⟩
theorem sX4_forgetAll_0 {h : Hp} {Post : Int → Hp → Prop}
    (K : Post 0 (hI h 38 2 0)) :
    Cl shC mX4_forgetAll [pR 38] h Post := by
  show Ok shC 0 0 mX4_forgetAll 0 [some (pR 38)] [] h Post
  refine Ok.aload_n (pc' := 1) rfl dX4_forgetAll_0 rfl ?_
  refine Ok.iconst (pc' := 2) in_0 dX4_forgetAll_1 rfl ?_
  refine Ok.putI (pc' := 5) (k := 2) dX4_forgetAll_2 rfl (shC_38 _) rfl inX4 tyX4 tyX4_ok nmX4 (by decide) rfl wd_327 rfl rfl (Or.inl rfl) ?_
  exact Ok.vret dX4_forgetAll_5 rfl (by decide) K
theorem sX4_keepHeld_0 {h : Hp} {Post : Int → Hp → Prop}
    (K : ((12 ≤ h.2.1 38 2) → inR ((h.2.1 38 1 + 1)) ∧ (Post 0 (hI h 38 1 (b_irem (h.2.1 38 1 + 1) 13)))) ∧ ((¬ 12 ≤ h.2.1 38 2) → inR ((h.2.1 38 2 + 1)) ∧ (Post 0 (hI h 38 2 (h.2.1 38 2 + 1))))) :
    Cl shC mX4_keepHeld [pR 38] h Post := by
  show Ok shC 0 0 mX4_keepHeld 0 [some (pR 38)] [] h Post
  refine Ok.aload_n (pc' := 1) rfl dX4_keepHeld_0 rfl ?_
  refine Ok.getI (pc' := 4) (z := h.2.1 38 2) (k := 2) dX4_keepHeld_1 rfl (shC_38 _) rfl inX4 (by decide) rfl rfl wd_327 rfl ?_
  refine Ok.bipush (pc' := 6) ⟨by decide, by decide⟩ dX4_keepHeld_4 rfl ?_
  refine Ok.icmp_ge (tgt := 22) dX4_keepHeld_6 rfl rfl (fun c1 => ?_) (fun c1 => ?_)
  · replace K := K.1 c1
    refine Ok.aload_n (pc' := 23) rfl dX4_keepHeld_22 rfl ?_
    refine Ok.aload_n (pc' := 24) rfl dX4_keepHeld_23 rfl ?_
    refine Ok.getI (pc' := 27) (z := h.2.1 38 1) (k := 1) dX4_keepHeld_24 rfl (shC_38 _) rfl inX4 (by decide) rfl rfl wd_326 rfl ?_
    refine Ok.iconst (pc' := 28) in_1 dX4_keepHeld_27 rfl ?_
    obtain ⟨q2, K⟩ := K
    refine Ok.iadd (pc' := 29) dX4_keepHeld_28 rfl q2 ?_
    refine Ok.bipush (pc' := 31) ⟨by decide, by decide⟩ dX4_keepHeld_29 rfl ?_
    refine Ok.irem (pc' := 32) dX4_keepHeld_31 rfl (by decide) ?_
    refine Ok.putI (pc' := 35) (k := 1) dX4_keepHeld_32 rfl (shC_38 _) rfl inX4 tyX4 tyX4_ok nmX4 (by decide) rfl wd_326 rfl rfl (Or.inl rfl) ?_
    exact Ok.vret dX4_keepHeld_35 rfl (by decide) K
  · replace K := K.2 c1
    refine Ok.aload_n (pc' := 10) rfl dX4_keepHeld_9 rfl ?_
    refine Ok.dup (pc' := 11) dX4_keepHeld_10 rfl rfl ?_
    refine Ok.getI (pc' := 14) (z := h.2.1 38 2) (k := 2) dX4_keepHeld_11 rfl (shC_38 _) rfl inX4 (by decide) rfl rfl wd_327 rfl ?_
    refine Ok.iconst (pc' := 15) in_1 dX4_keepHeld_14 rfl ?_
    obtain ⟨q2, K⟩ := K
    refine Ok.iadd (pc' := 16) dX4_keepHeld_15 rfl q2 ?_
    refine Ok.putI (pc' := 19) (k := 2) dX4_keepHeld_16 rfl (shC_38 _) rfl inX4 tyX4 tyX4_ok nmX4 (by decide) rfl wd_327 rfl rfl (Or.inl rfl) ?_
    refine Ok.goto (tgt := 35) dX4_keepHeld_19 rfl ?_
    exact Ok.vret dX4_keepHeld_35 rfl (by decide) K
theorem sX4_takeBack_0 {h : Hp} {Post : Int → Hp → Prop}
    (K : ((¬ h.2.1 38 2 = 0) → inR ((h.2.1 38 2 - 1)) ∧ (Cl shC mX4_bringBackHeld [pR 38, pR 2] (hI h 38 2 (h.2.1 38 2 - 1)) (fun _ h1 => Ok shC 0 0 mX4_takeBack 34 [none, some (pR 2), some (pI (h.2.1 2 6)), some (pI (h1.2.1 2 6))] [] h1 Post))) ∧ ((h.2.1 38 2 = 0) → Post 0 h)) :
    Cl shC mX4_takeBack [pR 38, pR 2] h Post := by
  show Ok shC 0 0 mX4_takeBack 0 [some (pR 38), some (pR 2), none, none] [] h Post
  refine Ok.aload_n (pc' := 1) rfl dX4_takeBack_0 rfl ?_
  refine Ok.getI (pc' := 4) (z := h.2.1 38 2) (k := 2) dX4_takeBack_1 rfl (shC_38 _) rfl inX4 (by decide) rfl rfl wd_327 rfl ?_
  refine Ok.if_ne (tgt := 9) dX4_takeBack_4 rfl rfl (fun c1 => ?_) (fun c1 => ?_)
  · replace K := K.1 c1
    refine Ok.aload_n (pc' := 10) rfl dX4_takeBack_9 rfl ?_
    refine Ok.getIN (pc' := 13) (z := h.2.1 2 6) (k := 6) dX4_takeBack_10 rfl (shC_2 _) rfl inX5 (by decide) rfl rfl wd_133 rfl ?_
    refine Ok.istore_n (pc' := 14) (ls' := [some (pR 38), some (pR 2), some (pI (h.2.1 2 6)), none]) dX4_takeBack_13 rfl (by decide) rfl rfl ?_
    refine Ok.aload_n (pc' := 15) rfl dX4_takeBack_14 rfl ?_
    refine Ok.dup (pc' := 16) dX4_takeBack_15 rfl rfl ?_
    refine Ok.getI (pc' := 19) (z := h.2.1 38 2) (k := 2) dX4_takeBack_16 rfl (shC_38 _) rfl inX4 (by decide) rfl rfl wd_327 rfl ?_
    refine Ok.iconst (pc' := 20) in_1 dX4_takeBack_19 rfl ?_
    obtain ⟨q2, K⟩ := K
    refine Ok.isub (pc' := 21) dX4_takeBack_20 rfl q2 ?_
    refine Ok.putI (pc' := 24) (k := 2) dX4_takeBack_21 rfl (shC_38 _) rfl inX4 tyX4 tyX4_ok nmX4 (by decide) rfl wd_327 rfl rfl (Or.inl rfl) ?_
    refine Ok.aload_n (pc' := 25) rfl dX4_takeBack_24 rfl ?_
    refine Ok.aload_n (pc' := 26) rfl dX4_takeBack_25 rfl ?_
    refine Ok.callV (pc' := 29) (av := [pR 2]) (rest := []) dX4_takeBack_26 rfl (by decide) cvX4_takeBack_32 (shC_38 _) rfl rfl rfl (leb rfl) (leb rfl) K (fun r_ h1 K => ?_)
    show Ok shC 0 0 mX4_takeBack 29 [some (pR 38), some (pR 2), some (pI (h.2.1 2 6)), none] [] h1 Post
    refine Ok.aload_n (pc' := 30) rfl dX4_takeBack_29 rfl ?_
    refine Ok.getIN (pc' := 33) (z := h1.2.1 2 6) (k := 6) dX4_takeBack_30 rfl (shC_2 _) rfl inX5 (by decide) rfl rfl wd_133 rfl ?_
    refine Ok.istore_n (pc' := 34) (ls' := [some (pR 38), some (pR 2), some (pI (h.2.1 2 6)), some (pI (h1.2.1 2 6))]) dX4_takeBack_33 rfl (by decide) rfl rfl ?_
    exact Ok.fl (ls' := [none, some (pR 2), some (pI (h.2.1 2 6)), some (pI (h1.2.1 2 6))]) K ⟨rfl, rfl, rfl, trivial⟩
  · replace K := K.2 c1
    refine Ok.iconst (pc' := 8) in_0 dX4_takeBack_7 rfl ?_
    exact Ok.zret dX4_takeBack_8 rfl (by decide) (Or.inl rfl) K
theorem sX4_takeBack_34 {v2 v3 : Int} {h : Hp} {Post : Int → Hp → Prop}
    (K : ((v2 ≤ v3) → Post 1 (hI h 2 6 v2)) ∧ ((¬ v2 ≤ v3) → Cl shC mX5_clear [pR 2, pI v3, pI (-1), pI 0] h (fun _ h1 => inR ((v3 + 1)) ∧ (Ok shC 0 0 mX4_takeBack 34 [none, some (pR 2), some (pI v2), some (pI (v3 + 1))] [] h1 Post)))) :
    Ok shC 0 0 mX4_takeBack 34 [none, some (pR 2), some (pI v2), some (pI v3)] [] h Post := by
  show Ok shC 0 0 mX4_takeBack 34 [none, some (pR 2), some (pI v2), some (pI v3)] [] h Post
  refine Ok.iload_n (pc' := 35) rfl dX4_takeBack_34 rfl ?_
  refine Ok.iload_n (pc' := 36) rfl dX4_takeBack_35 rfl ?_
  refine Ok.icmp_ge (tgt := 52) dX4_takeBack_36 rfl rfl (fun c1 => ?_) (fun c1 => ?_)
  · replace K := K.1 c1
    refine Ok.aload_n (pc' := 53) rfl dX4_takeBack_52 rfl ?_
    refine Ok.iload_n (pc' := 54) rfl dX4_takeBack_53 rfl ?_
    refine Ok.putIN (pc' := 57) (k := 6) dX4_takeBack_54 rfl (shC_2 _) rfl inX5 tyX5 tyX5_ok nmX5 (by decide) rfl wd_133 rfl rfl (Or.inl rfl) ?_
    refine Ok.iconst (pc' := 58) in_1 dX4_takeBack_57 rfl ?_
    exact Ok.zret dX4_takeBack_58 rfl (by decide) (Or.inr rfl) K
  · replace K := K.2 c1
    refine Ok.aload_n (pc' := 40) rfl dX4_takeBack_39 rfl ?_
    refine Ok.iload_n (pc' := 41) rfl dX4_takeBack_40 rfl ?_
    refine Ok.iconst (pc' := 42) in_m1 dX4_takeBack_41 rfl ?_
    refine Ok.iconst (pc' := 43) in_0 dX4_takeBack_42 rfl ?_
    refine Ok.callV (pc' := 46) (av := [pI v3, pI (-1), pI 0]) (rest := []) dX4_takeBack_43 rfl (by decide) cvX4_takeBack_35 (shC_2 _) rfl rfl rfl (leb rfl) (leb rfl) K (fun r_ h1 K => ?_)
    show Ok shC 0 0 mX4_takeBack 46 [none, some (pR 2), some (pI v2), some (pI v3)] [] h1 Post
    obtain ⟨q2, K⟩ := K
    refine Ok.iinc (pc' := 49) (ls' := [none, some (pR 2), some (pI v2), some (pI (v3 + 1))]) dX4_takeBack_46 rfl rfl (by decide) rfl rfl q2 ?_
    refine Ok.goto (tgt := 34) dX4_takeBack_49 rfl ?_
    exact K
theorem sX7_workAhead_0 {r : Int} {h : Hp} {Post : Int → Hp → Prop}
    (K : Cl shC mX7_firstToChange [pR 30, pI r] (hI h 30 5 0) (fun r1 h1 => Ok shC 0 0 mX7_workAhead 13 [some (pR 30), some (pI r), some (pI r1), some (pI 0)] [] h1 Post)) :
    Cl shC mX7_workAhead [pR 30, pI r] h Post := by
  show Ok shC 0 0 mX7_workAhead 0 [some (pR 30), some (pI r), none, none] [] h Post
  refine Ok.aload_n (pc' := 1) rfl dX7_workAhead_0 rfl ?_
  refine Ok.iconst (pc' := 2) in_0 dX7_workAhead_1 rfl ?_
  refine Ok.putI (pc' := 5) (k := 5) dX7_workAhead_2 rfl (shC_30 _) rfl inX7 tyX7 tyX7_ok nmX7 (by decide) rfl wd_294 rfl rfl (Or.inr ⟨rfl, Or.inl rfl⟩) ?_
  refine Ok.aload_n (pc' := 6) rfl dX7_workAhead_5 rfl ?_
  refine Ok.iload_n (pc' := 7) rfl dX7_workAhead_6 rfl ?_
  refine Ok.callV (pc' := 10) (av := [pI r]) (rest := []) dX7_workAhead_7 rfl (by decide) cvX7_workAhead_41 (shC_30 _) rfl rfl rfl (leb rfl) (leb rfl) K (fun r1 h1 K => ?_)
  show Ok shC 0 0 mX7_workAhead 10 [some (pR 30), some (pI r), none, none] [pI r1] h1 Post
  refine Ok.istore_n (pc' := 11) (ls' := [some (pR 30), some (pI r), some (pI r1), none]) dX7_workAhead_10 rfl (by decide) rfl rfl ?_
  refine Ok.iconst (pc' := 12) in_0 dX7_workAhead_11 rfl ?_
  refine Ok.istore_n (pc' := 13) (ls' := [some (pR 30), some (pI r), some (pI r1), some (pI 0)]) dX7_workAhead_12 rfl (by decide) rfl rfl ?_
  exact K
theorem sX7_workAhead_13 {r v2 v3 : Int} {h : Hp} {Post : Int → Hp → Prop}
    (K : ((600 ≤ v3) → ((¬ h.2.1 30 5 = 0) → Post 0 h) ∧ ((h.2.1 30 5 = 0) → Post 1 h)) ∧ ((¬ 600 ≤ v3) → ((v2 = (-4)) → ((¬ h.2.1 30 5 = 0) → Post 0 h) ∧ ((h.2.1 30 5 = 0) → Post 1 h)) ∧ ((¬ v2 = (-4)) → ((¬ h.2.1 30 5 = 0) → Post 0 h) ∧ ((h.2.1 30 5 = 0) → ((h.2.1 30 8 = (-4)) → Cl shC mX7_change [pR 30, pI v2] h (fun _ h1 => ((h1.2.1 30 5 = 0) → Cl shC mX7_firstToChange [pR 30, pI r] h1 (fun r2 h2 => inR ((v3 + 1)) ∧ (Ok shC 0 0 mX7_workAhead 13 [some (pR 30), some (pI r), some (pI r2), some (pI (v3 + 1))] [] h2 Post))) ∧ ((¬ h1.2.1 30 5 = 0) → inR ((v3 + 1)) ∧ (Ok shC 0 0 mX7_workAhead 13 [some (pR 30), some (pI r), some (pI (-4)), some (pI (v3 + 1))] [] h1 Post)))) ∧ ((¬ h.2.1 30 8 = (-4)) → Cl shC mX7_namesBecomeNumbers [pR 30] h (fun _ h3 => Cl shC mX7_change [pR 30, pI v2] h3 (fun _ h4 => ((h4.2.1 30 5 = 0) → Cl shC mX7_firstToChange [pR 30, pI r] h4 (fun r5 h5 => inR ((v3 + 1)) ∧ (Ok shC 0 0 mX7_workAhead 13 [some (pR 30), some (pI r), some (pI r5), some (pI (v3 + 1))] [] h5 Post))) ∧ ((¬ h4.2.1 30 5 = 0) → inR ((v3 + 1)) ∧ (Ok shC 0 0 mX7_workAhead 13 [some (pR 30), some (pI r), some (pI (-4)), some (pI (v3 + 1))] [] h4 Post))))))))) :
    Ok shC 0 0 mX7_workAhead 13 [some (pR 30), some (pI r), some (pI v2), some (pI v3)] [] h Post := by
  show Ok shC 0 0 mX7_workAhead 13 [some (pR 30), some (pI r), some (pI v2), some (pI v3)] [] h Post
  refine Ok.iload_n (pc' := 14) rfl dX7_workAhead_13 rfl ?_
  refine Ok.sipush (pc' := 17) ⟨by decide, by decide⟩ dX7_workAhead_14 rfl ?_
  refine Ok.icmp_ge (tgt := 75) dX7_workAhead_17 rfl rfl (fun c1 => ?_) (fun c1 => ?_)
  · replace K := K.1 c1
    refine Ok.aload_n (pc' := 76) rfl dX7_workAhead_75 rfl ?_
    refine Ok.getI (pc' := 79) (z := h.2.1 30 5) (k := 5) dX7_workAhead_76 rfl (shC_30 _) rfl inX7 (by decide) rfl rfl wd_294 rfl ?_
    refine Ok.if_ne (tgt := 86) dX7_workAhead_79 rfl rfl (fun c2 => ?_) (fun c2 => ?_)
    · replace K := K.1 c2
      refine Ok.iconst (pc' := 87) in_0 dX7_workAhead_86 rfl ?_
      exact Ok.zret dX7_workAhead_87 rfl (by decide) (Or.inl rfl) K
    · replace K := K.2 c2
      refine Ok.iconst (pc' := 83) in_1 dX7_workAhead_82 rfl ?_
      refine Ok.goto (tgt := 87) dX7_workAhead_83 rfl ?_
      exact Ok.zret dX7_workAhead_87 rfl (by decide) (Or.inr rfl) K
  · replace K := K.2 c1
    refine Ok.iload_n (pc' := 21) rfl dX7_workAhead_20 rfl ?_
    refine Ok.bipush (pc' := 23) ⟨by decide, by decide⟩ dX7_workAhead_21 rfl ?_
    refine Ok.icmp_eq (tgt := 75) dX7_workAhead_23 rfl rfl (fun c2 => ?_) (fun c2 => ?_)
    · replace K := K.1 c2
      refine Ok.aload_n (pc' := 76) rfl dX7_workAhead_75 rfl ?_
      refine Ok.getI (pc' := 79) (z := h.2.1 30 5) (k := 5) dX7_workAhead_76 rfl (shC_30 _) rfl inX7 (by decide) rfl rfl wd_294 rfl ?_
      refine Ok.if_ne (tgt := 86) dX7_workAhead_79 rfl rfl (fun c3 => ?_) (fun c3 => ?_)
      · replace K := K.1 c3
        refine Ok.iconst (pc' := 87) in_0 dX7_workAhead_86 rfl ?_
        exact Ok.zret dX7_workAhead_87 rfl (by decide) (Or.inl rfl) K
      · replace K := K.2 c3
        refine Ok.iconst (pc' := 83) in_1 dX7_workAhead_82 rfl ?_
        refine Ok.goto (tgt := 87) dX7_workAhead_83 rfl ?_
        exact Ok.zret dX7_workAhead_87 rfl (by decide) (Or.inr rfl) K
    · replace K := K.2 c2
      refine Ok.aload_n (pc' := 27) rfl dX7_workAhead_26 rfl ?_
      refine Ok.getI (pc' := 30) (z := h.2.1 30 5) (k := 5) dX7_workAhead_27 rfl (shC_30 _) rfl inX7 (by decide) rfl rfl wd_294 rfl ?_
      refine Ok.if_ne (tgt := 75) dX7_workAhead_30 rfl rfl (fun c3 => ?_) (fun c3 => ?_)
      · replace K := K.1 c3
        refine Ok.aload_n (pc' := 76) rfl dX7_workAhead_75 rfl ?_
        refine Ok.getI (pc' := 79) (z := h.2.1 30 5) (k := 5) dX7_workAhead_76 rfl (shC_30 _) rfl inX7 (by decide) rfl rfl wd_294 rfl ?_
        refine Ok.if_ne (tgt := 86) dX7_workAhead_79 rfl rfl (fun _ => ?_) (fun z => absurd z c3)
        refine Ok.iconst (pc' := 87) in_0 dX7_workAhead_86 rfl ?_
        exact Ok.zret dX7_workAhead_87 rfl (by decide) (Or.inl rfl) K
      · replace K := K.2 c3
        refine Ok.aload_n (pc' := 34) rfl dX7_workAhead_33 rfl ?_
        refine Ok.getI (pc' := 37) (z := h.2.1 30 8) (k := 8) dX7_workAhead_34 rfl (shC_30 _) rfl inX7 (by decide) rfl rfl wd_297 rfl ?_
        refine Ok.bipush (pc' := 39) ⟨by decide, by decide⟩ dX7_workAhead_37 rfl ?_
        refine Ok.icmp_eq (tgt := 46) dX7_workAhead_39 rfl rfl (fun c4 => ?_) (fun c4 => ?_)
        · replace K := K.1 c4
          refine Ok.aload_n (pc' := 47) rfl dX7_workAhead_46 rfl ?_
          refine Ok.iload_n (pc' := 48) rfl dX7_workAhead_47 rfl ?_
          refine Ok.callV (pc' := 51) (av := [pI v2]) (rest := []) dX7_workAhead_48 rfl (by decide) cvX7_workAhead_52 (shC_30 _) rfl rfl rfl (leb rfl) (leb rfl) K (fun r_ h1 K => ?_)
          show Ok shC 0 0 mX7_workAhead 51 [some (pR 30), some (pI r), some (pI v2), some (pI v3)] [] h1 Post
          refine Ok.aload_n (pc' := 52) rfl dX7_workAhead_51 rfl ?_
          refine Ok.getI (pc' := 55) (z := h1.2.1 30 5) (k := 5) dX7_workAhead_52 rfl (shC_30 _) rfl inX7 (by decide) rfl rfl wd_294 rfl ?_
          refine Ok.if_eq (tgt := 63) dX7_workAhead_55 rfl rfl (fun c5 => ?_) (fun c5 => ?_)
          · replace K := K.1 c5
            refine Ok.aload_n (pc' := 64) rfl dX7_workAhead_63 rfl ?_
            refine Ok.iload_n (pc' := 65) rfl dX7_workAhead_64 rfl ?_
            refine Ok.callV (pc' := 68) (av := [pI r]) (rest := []) dX7_workAhead_65 rfl (by decide) cvX7_workAhead_41 (shC_30 _) rfl rfl rfl (leb rfl) (leb rfl) K (fun r2 h2 K => ?_)
            show Ok shC 0 0 mX7_workAhead 68 [some (pR 30), some (pI r), some (pI v2), some (pI v3)] [pI r2] h2 Post
            refine Ok.istore_n (pc' := 69) (ls' := [some (pR 30), some (pI r), some (pI r2), some (pI v3)]) dX7_workAhead_68 rfl (by decide) rfl rfl ?_
            obtain ⟨q6, K⟩ := K
            refine Ok.iinc (pc' := 72) (ls' := [some (pR 30), some (pI r), some (pI r2), some (pI (v3 + 1))]) dX7_workAhead_69 rfl rfl (by decide) rfl rfl q6 ?_
            refine Ok.goto (tgt := 13) dX7_workAhead_72 rfl ?_
            exact K
          · replace K := K.2 c5
            refine Ok.bipush (pc' := 60) ⟨by decide, by decide⟩ dX7_workAhead_58 rfl ?_
            refine Ok.goto (tgt := 68) dX7_workAhead_60 rfl ?_
            refine Ok.istore_n (pc' := 69) (ls' := [some (pR 30), some (pI r), some (pI (-4)), some (pI v3)]) dX7_workAhead_68 rfl (by decide) rfl rfl ?_
            obtain ⟨q6, K⟩ := K
            refine Ok.iinc (pc' := 72) (ls' := [some (pR 30), some (pI r), some (pI (-4)), some (pI (v3 + 1))]) dX7_workAhead_69 rfl rfl (by decide) rfl rfl q6 ?_
            refine Ok.goto (tgt := 13) dX7_workAhead_72 rfl ?_
            exact K
        · replace K := K.2 c4
          refine Ok.aload_n (pc' := 43) rfl dX7_workAhead_42 rfl ?_
          refine Ok.callV (pc' := 46) (av := []) (rest := []) dX7_workAhead_43 rfl (by decide) cvX7_workAhead_49 (shC_30 _) rfl rfl rfl (leb rfl) (leb rfl) K (fun r_ h3 K => ?_)
          show Ok shC 0 0 mX7_workAhead 46 [some (pR 30), some (pI r), some (pI v2), some (pI v3)] [] h3 Post
          refine Ok.aload_n (pc' := 47) rfl dX7_workAhead_46 rfl ?_
          refine Ok.iload_n (pc' := 48) rfl dX7_workAhead_47 rfl ?_
          refine Ok.callV (pc' := 51) (av := [pI v2]) (rest := []) dX7_workAhead_48 rfl (by decide) cvX7_workAhead_52 (shC_30 _) rfl rfl rfl (leb rfl) (leb rfl) K (fun r_ h4 K => ?_)
          show Ok shC 0 0 mX7_workAhead 51 [some (pR 30), some (pI r), some (pI v2), some (pI v3)] [] h4 Post
          refine Ok.aload_n (pc' := 52) rfl dX7_workAhead_51 rfl ?_
          refine Ok.getI (pc' := 55) (z := h4.2.1 30 5) (k := 5) dX7_workAhead_52 rfl (shC_30 _) rfl inX7 (by decide) rfl rfl wd_294 rfl ?_
          refine Ok.if_eq (tgt := 63) dX7_workAhead_55 rfl rfl (fun c5 => ?_) (fun c5 => ?_)
          · replace K := K.1 c5
            refine Ok.aload_n (pc' := 64) rfl dX7_workAhead_63 rfl ?_
            refine Ok.iload_n (pc' := 65) rfl dX7_workAhead_64 rfl ?_
            refine Ok.callV (pc' := 68) (av := [pI r]) (rest := []) dX7_workAhead_65 rfl (by decide) cvX7_workAhead_41 (shC_30 _) rfl rfl rfl (leb rfl) (leb rfl) K (fun r5 h5 K => ?_)
            show Ok shC 0 0 mX7_workAhead 68 [some (pR 30), some (pI r), some (pI v2), some (pI v3)] [pI r5] h5 Post
            refine Ok.istore_n (pc' := 69) (ls' := [some (pR 30), some (pI r), some (pI r5), some (pI v3)]) dX7_workAhead_68 rfl (by decide) rfl rfl ?_
            obtain ⟨q6, K⟩ := K
            refine Ok.iinc (pc' := 72) (ls' := [some (pR 30), some (pI r), some (pI r5), some (pI (v3 + 1))]) dX7_workAhead_69 rfl rfl (by decide) rfl rfl q6 ?_
            refine Ok.goto (tgt := 13) dX7_workAhead_72 rfl ?_
            exact K
          · replace K := K.2 c5
            refine Ok.bipush (pc' := 60) ⟨by decide, by decide⟩ dX7_workAhead_58 rfl ?_
            refine Ok.goto (tgt := 68) dX7_workAhead_60 rfl ?_
            refine Ok.istore_n (pc' := 69) (ls' := [some (pR 30), some (pI r), some (pI (-4)), some (pI v3)]) dX7_workAhead_68 rfl (by decide) rfl rfl ?_
            obtain ⟨q6, K⟩ := K
            refine Ok.iinc (pc' := 72) (ls' := [some (pR 30), some (pI r), some (pI (-4)), some (pI (v3 + 1))]) dX7_workAhead_69 rfl rfl (by decide) rfl rfl q6 ?_
            refine Ok.goto (tgt := 13) dX7_workAhead_72 rfl ?_
            exact K
theorem sX7_firstToChange_0 {r : Int} {h : Hp} {Post : Int → Hp → Prop}
    (K : Cl shC mX1_bodyOf [pR 1, pI r] h (fun r1 h1 => Cl shC mX6_over [pR 14, pR 2, pI r1] h1 (fun _ h2 => Cl shC mX7_tallyNames [pR 30] h2 (fun _ h3 => Ok shC 0 0 mX7_firstToChange 28 [some (pR 30), some (pI r), some (pI 0)] [] h3 Post)))) :
    Cl shC mX7_firstToChange [pR 30, pI r] h Post := by
  show Ok shC 0 0 mX7_firstToChange 0 [some (pR 30), some (pI r), none] [] h Post
  refine Ok.aload_n (pc' := 1) rfl dX7_firstToChange_0 rfl ?_
  refine Ok.getR (pc' := 4) (k := 1) dX7_firstToChange_1 rfl (shC_30 _) rfl inX7 (by decide) rfl wd_290 rfl ?_
  refine Ok.aload_n (pc' := 5) rfl dX7_firstToChange_4 rfl ?_
  refine Ok.getR (pc' := 8) (k := 0) dX7_firstToChange_5 rfl (shC_30 _) rfl inX7 (by decide) rfl wd_289 rfl ?_
  refine Ok.getRN (pc' := 11) (k := 0) dX7_firstToChange_8 rfl (shC_1 _) rfl inX1 (by decide) rfl wd_189 rfl ?_
  refine Ok.aload_n (pc' := 12) rfl dX7_firstToChange_11 rfl ?_
  refine Ok.getR (pc' := 15) (k := 0) dX7_firstToChange_12 rfl (shC_30 _) rfl inX7 (by decide) rfl wd_289 rfl ?_
  refine Ok.iload_n (pc' := 16) rfl dX7_firstToChange_15 rfl ?_
  refine Ok.callV (pc' := 19) (av := [pI r]) (rest := [pR 2, pR 14]) dX7_firstToChange_16 rfl (by decide) cvX7_firstToChange_60 (shC_1 _) rfl rfl rfl (leb rfl) (leb rfl) K (fun r1 h1 K => ?_)
  show Ok shC 0 0 mX7_firstToChange 19 [some (pR 30), some (pI r), none] [pI r1, pR 2, pR 14] h1 Post
  refine Ok.callV (pc' := 22) (av := [pR 2, pI r1]) (rest := []) dX7_firstToChange_19 rfl (by decide) cvX7_firstToChange_63 (shC_14 _) rfl rfl rfl (leb rfl) (leb rfl) K (fun r_ h2 K => ?_)
  show Ok shC 0 0 mX7_firstToChange 22 [some (pR 30), some (pI r), none] [] h2 Post
  refine Ok.aload_n (pc' := 23) rfl dX7_firstToChange_22 rfl ?_
  refine Ok.callV (pc' := 26) (av := []) (rest := []) dX7_firstToChange_23 rfl (by decide) cvX7_firstToChange_67 (shC_30 _) rfl rfl rfl (leb rfl) (leb rfl) K (fun r_ h3 K => ?_)
  show Ok shC 0 0 mX7_firstToChange 26 [some (pR 30), some (pI r), none] [] h3 Post
  refine Ok.iconst (pc' := 27) in_0 dX7_firstToChange_26 rfl ?_
  refine Ok.istore_n (pc' := 28) (ls' := [some (pR 30), some (pI r), some (pI 0)]) dX7_firstToChange_27 rfl (by decide) rfl rfl ?_
  exact K
theorem sX7_firstToChange_28 {r v2 : Int} {h : Hp} {Post : Int → Hp → Prop}
    (K : ((h.2.1 14 4 ≤ v2) → Post (-4) h) ∧ ((¬ h.2.1 14 4 ≤ v2) → ∃ k2 : Nat, v2 = (k2 : Int) ∧ k2 < 600 ∧ (Cl shC mX1_paramsOf [pR 1, pI r] h (fun r1 h1 => Cl shC mX7_canChange [pR 30, pI (h.1 15 k2), pI r1] h1 (fun r2 h2 => ((r2 = 0) → inR ((v2 + 1)) ∧ (Ok shC 0 0 mX7_firstToChange 28 [some (pR 30), some (pI r), some (pI (v2 + 1))] [] h2 Post)) ∧ ((¬ r2 = 0) → Post (h2.1 15 k2) h2)))))) :
    Ok shC 0 0 mX7_firstToChange 28 [some (pR 30), some (pI r), some (pI v2)] [] h Post := by
  show Ok shC 0 0 mX7_firstToChange 28 [some (pR 30), some (pI r), some (pI v2)] [] h Post
  refine Ok.iload_n (pc' := 29) rfl dX7_firstToChange_28 rfl ?_
  refine Ok.aload_n (pc' := 30) rfl dX7_firstToChange_29 rfl ?_
  refine Ok.getR (pc' := 33) (k := 1) dX7_firstToChange_30 rfl (shC_30 _) rfl inX7 (by decide) rfl wd_290 rfl ?_
  refine Ok.getIN (pc' := 36) (z := h.2.1 14 4) (k := 4) dX7_firstToChange_33 rfl (shC_14 _) rfl inX6 (by decide) rfl rfl wd_174 rfl ?_
  refine Ok.icmp_ge (tgt := 79) dX7_firstToChange_36 rfl rfl (fun c1 => ?_) (fun c1 => ?_)
  · replace K := K.1 c1
    refine Ok.bipush (pc' := 81) ⟨by decide, by decide⟩ dX7_firstToChange_79 rfl ?_
    exact Ok.iret dX7_firstToChange_81 rfl (by decide) K
  · replace K := K.2 c1
    refine Ok.aload_n (pc' := 40) rfl dX7_firstToChange_39 rfl ?_
    refine Ok.aload_n (pc' := 41) rfl dX7_firstToChange_40 rfl ?_
    refine Ok.getR (pc' := 44) (k := 1) dX7_firstToChange_41 rfl (shC_30 _) rfl inX7 (by decide) rfl wd_290 rfl ?_
    refine Ok.getRN (pc' := 47) (k := 0) dX7_firstToChange_44 rfl (shC_14 _) rfl inX6 (by decide) rfl wd_164 rfl ?_
    refine Ok.iload_n (pc' := 48) rfl dX7_firstToChange_47 rfl ?_
    obtain ⟨k2, e2, q2, K⟩ := K
    refine Ok.iald (pc' := 49) (z := h.1 15 k2) dX7_firstToChange_48 rfl (shC_15 _) (by decide) e2 q2 rfl ?_
    refine Ok.aload_n (pc' := 50) rfl dX7_firstToChange_49 rfl ?_
    refine Ok.getR (pc' := 53) (k := 0) dX7_firstToChange_50 rfl (shC_30 _) rfl inX7 (by decide) rfl wd_289 rfl ?_
    refine Ok.iload_n (pc' := 54) rfl dX7_firstToChange_53 rfl ?_
    refine Ok.callV (pc' := 57) (av := [pI r]) (rest := [pI (h.1 15 k2), pR 30]) dX7_firstToChange_54 rfl (by decide) cvX7_firstToChange_76 (shC_1 _) rfl rfl rfl (leb rfl) (leb rfl) K (fun r1 h1 K => ?_)
    show Ok shC 0 0 mX7_firstToChange 57 [some (pR 30), some (pI r), some (pI v2)] [pI r1, pI (h.1 15 k2), pR 30] h1 Post
    refine Ok.callV (pc' := 60) (av := [pI (h.1 15 k2), pI r1]) (rest := []) dX7_firstToChange_57 rfl (by decide) cvX7_firstToChange_79 (shC_30 _) rfl rfl rfl (leb rfl) (leb rfl) K (fun r2 h2 K => ?_)
    show Ok shC 0 0 mX7_firstToChange 60 [some (pR 30), some (pI r), some (pI v2)] [pI r2] h2 Post
    refine Ok.if_eq (tgt := 73) dX7_firstToChange_60 rfl rfl (fun c3 => ?_) (fun c3 => ?_)
    · replace K := K.1 c3
      obtain ⟨q4, K⟩ := K
      refine Ok.iinc (pc' := 76) (ls' := [some (pR 30), some (pI r), some (pI (v2 + 1))]) dX7_firstToChange_73 rfl rfl (by decide) rfl rfl q4 ?_
      refine Ok.goto (tgt := 28) dX7_firstToChange_76 rfl ?_
      exact K
    · replace K := K.2 c3
      refine Ok.aload_n (pc' := 64) rfl dX7_firstToChange_63 rfl ?_
      refine Ok.getR (pc' := 67) (k := 1) dX7_firstToChange_64 rfl (shC_30 _) rfl inX7 (by decide) rfl wd_290 rfl ?_
      refine Ok.getRN (pc' := 70) (k := 0) dX7_firstToChange_67 rfl (shC_14 _) rfl inX6 (by decide) rfl wd_164 rfl ?_
      refine Ok.iload_n (pc' := 71) rfl dX7_firstToChange_70 rfl ?_
      refine Ok.iald (pc' := 72) (z := h2.1 15 k2) dX7_firstToChange_71 rfl (shC_15 _) (by decide) e2 q2 rfl ?_
      exact Ok.iret dX7_firstToChange_72 rfl (by decide) K
theorem sX7_tallyNames_0 {h : Hp} {Post : Int → Hp → Prop}
    (K : Cl shC mJ7_fill_53178 [pR 36, pI 0] h (fun _ h1 => Cl shC mJ7_fill_53178 [pR 37, pI 0] h1 (fun _ h2 => Ok shC 0 0 mX7_tallyNames 18 [some (pR 30), some (pI 0), none, none] [] h2 Post))) :
    Cl shC mX7_tallyNames [pR 30] h Post := by
  show Ok shC 0 0 mX7_tallyNames 0 [some (pR 30), none, none, none] [] h Post
  refine Ok.aload_n (pc' := 1) rfl dX7_tallyNames_0 rfl ?_
  refine Ok.getR (pc' := 4) (k := 3) dX7_tallyNames_1 rfl (shC_30 _) rfl inX7 (by decide) rfl wd_292 rfl ?_
  refine Ok.iconst (pc' := 5) in_0 dX7_tallyNames_4 rfl ?_
  refine Ok.callS (pc' := 8) (av := [pR 36, pI 0]) (rest := []) dX7_tallyNames_5 rfl (by decide) cvX7_tallyNames_83 rfl rfl (leb rfl) (leb rfl) K (fun r_ h1 K => ?_)
  show Ok shC 0 0 mX7_tallyNames 8 [some (pR 30), none, none, none] [] h1 Post
  refine Ok.aload_n (pc' := 9) rfl dX7_tallyNames_8 rfl ?_
  refine Ok.getR (pc' := 12) (k := 4) dX7_tallyNames_9 rfl (shC_30 _) rfl inX7 (by decide) rfl wd_293 rfl ?_
  refine Ok.iconst (pc' := 13) in_0 dX7_tallyNames_12 rfl ?_
  refine Ok.callS (pc' := 16) (av := [pR 37, pI 0]) (rest := []) dX7_tallyNames_13 rfl (by decide) cvX7_tallyNames_83 rfl rfl (leb rfl) (leb rfl) K (fun r_ h2 K => ?_)
  show Ok shC 0 0 mX7_tallyNames 16 [some (pR 30), none, none, none] [] h2 Post
  refine Ok.iconst (pc' := 17) in_0 dX7_tallyNames_16 rfl ?_
  refine Ok.istore_n (pc' := 18) (ls' := [some (pR 30), some (pI 0), none, none]) dX7_tallyNames_17 rfl (by decide) rfl rfl ?_
  exact K
theorem sX7_tallyNames_18 {v1 : Int} {h : Hp} {Post : Int → Hp → Prop}
    (K : ((h.2.1 14 4 ≤ v1) → Post 0 h) ∧ ((¬ h.2.1 14 4 ≤ v1) → ∃ k2 : Nat, v1 = (k2 : Int) ∧ k2 < 600 ∧ (Cl shC mX1_numberOf [pR 1, pI (h.1 15 k2)] h (fun r1 h1 => Cl shC mX1_kindOf [pR 1, pI (h1.1 15 k2)] h1 (fun r2 h2 => ((¬ r2 = 4) → ((¬ r2 = 1) → inR ((v1 + 1)) ∧ (Ok shC 0 0 mX7_tallyNames 18 [some (pR 30), some (pI (v1 + 1)), none, none] [] h2 Post)) ∧ ((r2 = 1) → Cl shC mX8_isName [pI r1] h2 (fun r3 h3 => ((r3 = 0) → inR ((v1 + 1)) ∧ (Ok shC 0 0 mX7_tallyNames 18 [some (pR 30), some (pI (v1 + 1)), none, none] [] h3 Post)) ∧ ((¬ r3 = 0) → ∃ k6 : Nat, r1 = (k6 : Int) ∧ k6 < 40 ∧ (inR ((h3.1 37 k6 + 1)) ∧ (inR ((v1 + 1)) ∧ (Ok shC 0 0 mX7_tallyNames 18 [some (pR 30), some (pI (v1 + 1)), none, none] [] (hA h3 37 k6 (h3.1 37 k6 + 1)) Post))))))) ∧ ((r2 = 4) → Cl shC mX8_isName [pI r1] h2 (fun r4 h4 => ((r4 = 0) → ((¬ r2 = 1) → inR ((v1 + 1)) ∧ (Ok shC 0 0 mX7_tallyNames 18 [some (pR 30), some (pI (v1 + 1)), none, none] [] h4 Post)) ∧ ((r2 = 1) → Cl shC mX8_isName [pI r1] h4 (fun r5 h5 => ((r5 = 0) → inR ((v1 + 1)) ∧ (Ok shC 0 0 mX7_tallyNames 18 [some (pR 30), some (pI (v1 + 1)), none, none] [] h5 Post)) ∧ ((¬ r5 = 0) → ∃ k7 : Nat, r1 = (k7 : Int) ∧ k7 < 40 ∧ (inR ((h5.1 37 k7 + 1)) ∧ (inR ((v1 + 1)) ∧ (Ok shC 0 0 mX7_tallyNames 18 [some (pR 30), some (pI (v1 + 1)), none, none] [] (hA h5 37 k7 (h5.1 37 k7 + 1)) Post))))))) ∧ ((¬ r4 = 0) → ∃ k5 : Nat, r1 = (k5 : Int) ∧ k5 < 40 ∧ (inR ((h4.1 36 k5 + 1)) ∧ (inR ((v1 + 1)) ∧ (Ok shC 0 0 mX7_tallyNames 18 [some (pR 30), some (pI (v1 + 1)), none, none] [] (hA h4 36 k5 (h4.1 36 k5 + 1)) Post))))))))))) :
    Ok shC 0 0 mX7_tallyNames 18 [some (pR 30), some (pI v1), none, none] [] h Post := by
  show Ok shC 0 0 mX7_tallyNames 18 [some (pR 30), some (pI v1), none, none] [] h Post
  refine Ok.iload_n (pc' := 19) rfl dX7_tallyNames_18 rfl ?_
  refine Ok.aload_n (pc' := 20) rfl dX7_tallyNames_19 rfl ?_
  refine Ok.getR (pc' := 23) (k := 1) dX7_tallyNames_20 rfl (shC_30 _) rfl inX7 (by decide) rfl wd_290 rfl ?_
  refine Ok.getIN (pc' := 26) (z := h.2.1 14 4) (k := 4) dX7_tallyNames_23 rfl (shC_14 _) rfl inX6 (by decide) rfl rfl wd_174 rfl ?_
  refine Ok.icmp_ge (tgt := 116) dX7_tallyNames_26 rfl rfl (fun c1 => ?_) (fun c1 => ?_)
  · replace K := K.1 c1
    exact Ok.vret dX7_tallyNames_116 rfl (by decide) K
  · replace K := K.2 c1
    refine Ok.aload_n (pc' := 30) rfl dX7_tallyNames_29 rfl ?_
    refine Ok.getR (pc' := 33) (k := 0) dX7_tallyNames_30 rfl (shC_30 _) rfl inX7 (by decide) rfl wd_289 rfl ?_
    refine Ok.aload_n (pc' := 34) rfl dX7_tallyNames_33 rfl ?_
    refine Ok.getR (pc' := 37) (k := 1) dX7_tallyNames_34 rfl (shC_30 _) rfl inX7 (by decide) rfl wd_290 rfl ?_
    refine Ok.getRN (pc' := 40) (k := 0) dX7_tallyNames_37 rfl (shC_14 _) rfl inX6 (by decide) rfl wd_164 rfl ?_
    refine Ok.iload_n (pc' := 41) rfl dX7_tallyNames_40 rfl ?_
    obtain ⟨k2, e2, q2, K⟩ := K
    refine Ok.iald (pc' := 42) (z := h.1 15 k2) dX7_tallyNames_41 rfl (shC_15 _) (by decide) e2 q2 rfl ?_
    refine Ok.callV (pc' := 45) (av := [pI (h.1 15 k2)]) (rest := []) dX7_tallyNames_42 rfl (by decide) cvX7_tallyNames_89 (shC_1 _) rfl rfl rfl (leb rfl) (leb rfl) K (fun r1 h1 K => ?_)
    show Ok shC 0 0 mX7_tallyNames 45 [some (pR 30), some (pI v1), none, none] [pI r1] h1 Post
    refine Ok.istore_n (pc' := 46) (ls' := [some (pR 30), some (pI v1), some (pI r1), none]) dX7_tallyNames_45 rfl (by decide) rfl rfl ?_
    refine Ok.aload_n (pc' := 47) rfl dX7_tallyNames_46 rfl ?_
    refine Ok.getR (pc' := 50) (k := 0) dX7_tallyNames_47 rfl (shC_30 _) rfl inX7 (by decide) rfl wd_289 rfl ?_
    refine Ok.aload_n (pc' := 51) rfl dX7_tallyNames_50 rfl ?_
    refine Ok.getR (pc' := 54) (k := 1) dX7_tallyNames_51 rfl (shC_30 _) rfl inX7 (by decide) rfl wd_290 rfl ?_
    refine Ok.getRN (pc' := 57) (k := 0) dX7_tallyNames_54 rfl (shC_14 _) rfl inX6 (by decide) rfl wd_164 rfl ?_
    refine Ok.iload_n (pc' := 58) rfl dX7_tallyNames_57 rfl ?_
    refine Ok.iald (pc' := 59) (z := h1.1 15 k2) dX7_tallyNames_58 rfl (shC_15 _) (by decide) e2 q2 rfl ?_
    refine Ok.callV (pc' := 62) (av := [pI (h1.1 15 k2)]) (rest := []) dX7_tallyNames_59 rfl (by decide) cvX7_tallyNames_92 (shC_1 _) rfl rfl rfl (leb rfl) (leb rfl) K (fun r2 h2 K => ?_)
    show Ok shC 0 0 mX7_tallyNames 62 [some (pR 30), some (pI v1), some (pI r1), none] [pI r2] h2 Post
    refine Ok.istore_n (pc' := 63) (ls' := [some (pR 30), some (pI v1), some (pI r1), some (pI r2)]) dX7_tallyNames_62 rfl (by decide) rfl rfl ?_
    refine Ok.iload_n (pc' := 64) rfl dX7_tallyNames_63 rfl ?_
    refine Ok.iconst (pc' := 65) in_4 dX7_tallyNames_64 rfl ?_
    refine Ok.icmp_ne (tgt := 88) dX7_tallyNames_65 rfl rfl (fun c3 => ?_) (fun c3 => ?_)
    · replace K := K.1 c3
      refine Ok.iload_n (pc' := 89) rfl dX7_tallyNames_88 rfl ?_
      refine Ok.iconst (pc' := 90) in_1 dX7_tallyNames_89 rfl ?_
      refine Ok.icmp_ne (tgt := 110) dX7_tallyNames_90 rfl rfl (fun c4 => ?_) (fun c4 => ?_)
      · replace K := K.1 c4
        obtain ⟨q5, K⟩ := K
        refine Ok.iinc (pc' := 113) (ls' := [some (pR 30), some (pI (v1 + 1)), some (pI r1), some (pI r2)]) dX7_tallyNames_110 rfl rfl (by decide) rfl rfl q5 ?_
        refine Ok.goto (tgt := 18) dX7_tallyNames_113 rfl ?_
        exact Ok.fl (ls' := [some (pR 30), some (pI (v1 + 1)), none, none]) K ⟨rfl, rfl, trivial⟩
      · replace K := K.2 c4
        refine Ok.iload_n (pc' := 94) rfl dX7_tallyNames_93 rfl ?_
        refine Ok.callSN (pc' := 97) (av := [pI r1]) (rest := []) dX7_tallyNames_94 rfl (by decide) cvX7_tallyNames_95 rfl rfl (leb rfl) (leb rfl) K (fun r3 h3 K => ?_)
        show Ok shC 0 0 mX7_tallyNames 97 [some (pR 30), some (pI v1), some (pI r1), some (pI r2)] [pI r3] h3 Post
        refine Ok.if_eq (tgt := 110) dX7_tallyNames_97 rfl rfl (fun c5 => ?_) (fun c5 => ?_)
        · replace K := K.1 c5
          obtain ⟨q6, K⟩ := K
          refine Ok.iinc (pc' := 113) (ls' := [some (pR 30), some (pI (v1 + 1)), some (pI r1), some (pI r2)]) dX7_tallyNames_110 rfl rfl (by decide) rfl rfl q6 ?_
          refine Ok.goto (tgt := 18) dX7_tallyNames_113 rfl ?_
          exact Ok.fl (ls' := [some (pR 30), some (pI (v1 + 1)), none, none]) K ⟨rfl, rfl, trivial⟩
        · replace K := K.2 c5
          refine Ok.aload_n (pc' := 101) rfl dX7_tallyNames_100 rfl ?_
          refine Ok.getR (pc' := 104) (k := 4) dX7_tallyNames_101 rfl (shC_30 _) rfl inX7 (by decide) rfl wd_293 rfl ?_
          refine Ok.iload_n (pc' := 105) rfl dX7_tallyNames_104 rfl ?_
          refine Ok.dup2 (pc' := 106) dX7_tallyNames_105 rfl rfl rfl ?_
          obtain ⟨k6, e6, q6, K⟩ := K
          refine Ok.iald (pc' := 107) (z := h3.1 37 k6) dX7_tallyNames_106 rfl (shC_37 _) (by decide) e6 q6 rfl ?_
          refine Ok.iconst (pc' := 108) in_1 dX7_tallyNames_107 rfl ?_
          obtain ⟨q7, K⟩ := K
          refine Ok.iadd (pc' := 109) dX7_tallyNames_108 rfl q7 ?_
          refine Ok.iast (pc' := 110) dX7_tallyNames_109 rfl (shC_37 _) (by decide) e6 q6 ?_
          obtain ⟨q8, K⟩ := K
          refine Ok.iinc (pc' := 113) (ls' := [some (pR 30), some (pI (v1 + 1)), some (pI r1), some (pI r2)]) dX7_tallyNames_110 rfl rfl (by decide) rfl rfl q8 ?_
          refine Ok.goto (tgt := 18) dX7_tallyNames_113 rfl ?_
          exact Ok.fl (ls' := [some (pR 30), some (pI (v1 + 1)), none, none]) K ⟨rfl, rfl, trivial⟩
    · replace K := K.2 c3
      refine Ok.iload_n (pc' := 69) rfl dX7_tallyNames_68 rfl ?_
      refine Ok.callSN (pc' := 72) (av := [pI r1]) (rest := []) dX7_tallyNames_69 rfl (by decide) cvX7_tallyNames_95 rfl rfl (leb rfl) (leb rfl) K (fun r4 h4 K => ?_)
      show Ok shC 0 0 mX7_tallyNames 72 [some (pR 30), some (pI v1), some (pI r1), some (pI r2)] [pI r4] h4 Post
      refine Ok.if_eq (tgt := 88) dX7_tallyNames_72 rfl rfl (fun c4 => ?_) (fun c4 => ?_)
      · replace K := K.1 c4
        refine Ok.iload_n (pc' := 89) rfl dX7_tallyNames_88 rfl ?_
        refine Ok.iconst (pc' := 90) in_1 dX7_tallyNames_89 rfl ?_
        refine Ok.icmp_ne (tgt := 110) dX7_tallyNames_90 rfl rfl (fun c5 => ?_) (fun c5 => ?_)
        · replace K := K.1 c5
          obtain ⟨q6, K⟩ := K
          refine Ok.iinc (pc' := 113) (ls' := [some (pR 30), some (pI (v1 + 1)), some (pI r1), some (pI r2)]) dX7_tallyNames_110 rfl rfl (by decide) rfl rfl q6 ?_
          refine Ok.goto (tgt := 18) dX7_tallyNames_113 rfl ?_
          exact Ok.fl (ls' := [some (pR 30), some (pI (v1 + 1)), none, none]) K ⟨rfl, rfl, trivial⟩
        · replace K := K.2 c5
          refine Ok.iload_n (pc' := 94) rfl dX7_tallyNames_93 rfl ?_
          refine Ok.callSN (pc' := 97) (av := [pI r1]) (rest := []) dX7_tallyNames_94 rfl (by decide) cvX7_tallyNames_95 rfl rfl (leb rfl) (leb rfl) K (fun r5 h5 K => ?_)
          show Ok shC 0 0 mX7_tallyNames 97 [some (pR 30), some (pI v1), some (pI r1), some (pI r2)] [pI r5] h5 Post
          refine Ok.if_eq (tgt := 110) dX7_tallyNames_97 rfl rfl (fun c6 => ?_) (fun c6 => ?_)
          · replace K := K.1 c6
            obtain ⟨q7, K⟩ := K
            refine Ok.iinc (pc' := 113) (ls' := [some (pR 30), some (pI (v1 + 1)), some (pI r1), some (pI r2)]) dX7_tallyNames_110 rfl rfl (by decide) rfl rfl q7 ?_
            refine Ok.goto (tgt := 18) dX7_tallyNames_113 rfl ?_
            exact Ok.fl (ls' := [some (pR 30), some (pI (v1 + 1)), none, none]) K ⟨rfl, rfl, trivial⟩
          · replace K := K.2 c6
            refine Ok.aload_n (pc' := 101) rfl dX7_tallyNames_100 rfl ?_
            refine Ok.getR (pc' := 104) (k := 4) dX7_tallyNames_101 rfl (shC_30 _) rfl inX7 (by decide) rfl wd_293 rfl ?_
            refine Ok.iload_n (pc' := 105) rfl dX7_tallyNames_104 rfl ?_
            refine Ok.dup2 (pc' := 106) dX7_tallyNames_105 rfl rfl rfl ?_
            obtain ⟨k7, e7, q7, K⟩ := K
            refine Ok.iald (pc' := 107) (z := h5.1 37 k7) dX7_tallyNames_106 rfl (shC_37 _) (by decide) e7 q7 rfl ?_
            refine Ok.iconst (pc' := 108) in_1 dX7_tallyNames_107 rfl ?_
            obtain ⟨q8, K⟩ := K
            refine Ok.iadd (pc' := 109) dX7_tallyNames_108 rfl q8 ?_
            refine Ok.iast (pc' := 110) dX7_tallyNames_109 rfl (shC_37 _) (by decide) e7 q7 ?_
            obtain ⟨q9, K⟩ := K
            refine Ok.iinc (pc' := 113) (ls' := [some (pR 30), some (pI (v1 + 1)), some (pI r1), some (pI r2)]) dX7_tallyNames_110 rfl rfl (by decide) rfl rfl q9 ?_
            refine Ok.goto (tgt := 18) dX7_tallyNames_113 rfl ?_
            exact Ok.fl (ls' := [some (pR 30), some (pI (v1 + 1)), none, none]) K ⟨rfl, rfl, trivial⟩
      · replace K := K.2 c4
        refine Ok.aload_n (pc' := 76) rfl dX7_tallyNames_75 rfl ?_
        refine Ok.getR (pc' := 79) (k := 3) dX7_tallyNames_76 rfl (shC_30 _) rfl inX7 (by decide) rfl wd_292 rfl ?_
        refine Ok.iload_n (pc' := 80) rfl dX7_tallyNames_79 rfl ?_
        refine Ok.dup2 (pc' := 81) dX7_tallyNames_80 rfl rfl rfl ?_
        obtain ⟨k5, e5, q5, K⟩ := K
        refine Ok.iald (pc' := 82) (z := h4.1 36 k5) dX7_tallyNames_81 rfl (shC_36 _) (by decide) e5 q5 rfl ?_
        refine Ok.iconst (pc' := 83) in_1 dX7_tallyNames_82 rfl ?_
        obtain ⟨q6, K⟩ := K
        refine Ok.iadd (pc' := 84) dX7_tallyNames_83 rfl q6 ?_
        refine Ok.iast (pc' := 85) dX7_tallyNames_84 rfl (shC_36 _) (by decide) e5 q5 ?_
        refine Ok.goto (tgt := 110) dX7_tallyNames_85 rfl ?_
        obtain ⟨q7, K⟩ := K
        refine Ok.iinc (pc' := 113) (ls' := [some (pR 30), some (pI (v1 + 1)), some (pI r1), some (pI r2)]) dX7_tallyNames_110 rfl rfl (by decide) rfl rfl q7 ?_
        refine Ok.goto (tgt := 18) dX7_tallyNames_113 rfl ?_
        exact Ok.fl (ls' := [some (pR 30), some (pI (v1 + 1)), none, none]) K ⟨rfl, rfl, trivial⟩
theorem sX7_canChange_0 {step params : Int} {h : Hp} {Post : Int → Hp → Prop}
    (K : Cl shC mX1_kindOf [pR 1, pI step] (hI (hI (hI h 30 6 (-4)) 30 7 0) 30 8 (-4)) (fun r1 h1 => ((r1 = 2) → Cl shC mX7_canReckon [pR 30, pI step] h1 (fun r2 h2 => (r2 = 0 ∨ r2 = 1) ∧ Post r2 h2)) ∧ ((r1 = 3) → Cl shC mX1_partOf [pR 1, pI step, pI 0] h1 (fun r3 h3 => Cl shC mX1_numberOf [pR 1, pI r3] h3 (fun r4 h4 => ((r4 = 0) → Cl shC mX1_partOf [pR 1, pI step, pI 0] (hI h4 30 6 2) (fun r5 h5 => Cl shC mX1_kindOf [pR 1, pI r5] h5 (fun r6 h6 => ((¬ r6 = 0) → Post 0 h6) ∧ ((r6 = 0) → Post 1 h6)))) ∧ ((¬ r4 = 0) → Cl shC mX1_partOf [pR 1, pI step, pI 0] (hI h4 30 6 1) (fun r7 h7 => Cl shC mX1_kindOf [pR 1, pI r7] h7 (fun r8 h8 => ((¬ r8 = 0) → Post 0 h8) ∧ ((r8 = 0) → Post 1 h8))))))) ∧ ((r1 = 5) → Cl shC mX1_partOf [pR 1, pI step, pI 0] (hI h1 30 6 1) (fun r9 h9 => Cl shC mX1_kindOf [pR 1, pI r9] h9 (fun r10 h10 => ((r10 = 0) → Post 1 h10) ∧ ((¬ r10 = 0) → ((r10 = 1) → Post 1 h10) ∧ ((¬ r10 = 1) → ((¬ r10 = 4) → Post 0 h10) ∧ ((r10 = 4) → Cl shC mX7_canFix [pR 30, pI step, pI params] h10 (fun r11 h11 => ((r11 = 0) → Post 0 h11) ∧ ((¬ r11 = 0) → Post 1 h11)))))))) ∧ ((r1 = 8) → Cl shC mX1_partOf [pR 1, pI step, pI 0] h1 (fun r12 h12 => Cl shC mX1_kindOf [pR 1, pI r12] h12 (fun r13 h13 => ((¬ r13 = 0) → Post 0 h13) ∧ ((r13 = 0) → Cl shC mX1_numberOf [pR 1, pI r12] h13 (fun r14 h14 => ((¬ r14 = 0) → Post 0 h14) ∧ ((r14 = 0) → Post 1 h14)))))) ∧ ((r1 = 11) → Cl shC mX7_isLeft [pR 30, pI step] (hI h1 30 6 0) (fun r15 h15 => ((¬ r15 = 0) → Post 0 h15) ∧ ((r15 = 0) → Post 1 h15))) ∧ ((r1 < 2 ∨ 11 < r1 ∨ r1 = 4 ∨ r1 = 6 ∨ r1 = 7 ∨ r1 = 9 ∨ r1 = 10) → Post 0 h1))) :
    Cl shC mX7_canChange [pR 30, pI step, pI params] h Post := by
  show Ok shC 0 0 mX7_canChange 0 [some (pR 30), some (pI step), some (pI params), none, none] [] h Post
  refine Ok.aload_n (pc' := 1) rfl dX7_canChange_0 rfl ?_
  refine Ok.bipush (pc' := 3) ⟨by decide, by decide⟩ dX7_canChange_1 rfl ?_
  refine Ok.putI (pc' := 6) (k := 6) dX7_canChange_3 rfl (shC_30 _) rfl inX7 tyX7 tyX7_ok nmX7 (by decide) rfl wd_295 rfl rfl (Or.inl rfl) ?_
  refine Ok.aload_n (pc' := 7) rfl dX7_canChange_6 rfl ?_
  refine Ok.iconst (pc' := 8) in_0 dX7_canChange_7 rfl ?_
  refine Ok.putI (pc' := 11) (k := 7) dX7_canChange_8 rfl (shC_30 _) rfl inX7 tyX7 tyX7_ok nmX7 (by decide) rfl wd_296 rfl rfl (Or.inl rfl) ?_
  refine Ok.aload_n (pc' := 12) rfl dX7_canChange_11 rfl ?_
  refine Ok.bipush (pc' := 14) ⟨by decide, by decide⟩ dX7_canChange_12 rfl ?_
  refine Ok.putI (pc' := 17) (k := 8) dX7_canChange_14 rfl (shC_30 _) rfl inX7 tyX7 tyX7_ok nmX7 (by decide) rfl wd_297 rfl rfl (Or.inl rfl) ?_
  refine Ok.aload_n (pc' := 18) rfl dX7_canChange_17 rfl ?_
  refine Ok.getR (pc' := 21) (k := 0) dX7_canChange_18 rfl (shC_30 _) rfl inX7 (by decide) rfl wd_289 rfl ?_
  refine Ok.iload_n (pc' := 22) rfl dX7_canChange_21 rfl ?_
  refine Ok.callV (pc' := 25) (av := [pI step]) (rest := []) dX7_canChange_22 rfl (by decide) cvX7_canChange_92 (shC_1 _) rfl rfl rfl (leb rfl) (leb rfl) K (fun r1 h1 K => ?_)
  show Ok shC 0 0 mX7_canChange 25 [some (pR 30), some (pI step), some (pI params), none, none] [pI r1] h1 Post
  obtain ⟨Kc1_0, Kc1_1, Kc1_2, Kc1_3, Kc1_4, Kc1_5⟩ := K
  refine Ok.tsw dX7_canChange_25 rfl ⟨by decide, by decide⟩ (fun tgt ht => ?_)
  have hx : (r1 = 2) ∨ (r1 = 3) ∨ (r1 = 5) ∨ (r1 = 8) ∨ (r1 = 11) ∨ (r1 < 2 ∨ 11 < r1 ∨ r1 = 4 ∨ r1 = 6 ∨ r1 = 7 ∨ r1 = 9 ∨ r1 = 10) := by omega
  rcases hx with c1 | c1 | c1 | c1 | c1 | c1
  · obtain rfl : 80 = tgt := by rw [c1] at ht; exact Int.ofNat.inj ht
    have K := Kc1_0 c1
    refine Ok.aload_n (pc' := 81) rfl dX7_canChange_80 rfl ?_
    refine Ok.iload_n (pc' := 82) rfl dX7_canChange_81 rfl ?_
    refine Ok.callV (pc' := 85) (av := [pI step]) (rest := []) dX7_canChange_82 rfl (by decide) cvX7_canChange_105 (shC_30 _) rfl rfl rfl (leb rfl) (leb rfl) K (fun r2 h2 K => ?_)
    show Ok shC 0 0 mX7_canChange 85 [some (pR 30), some (pI step), some (pI params), none, none] [pI r2] h2 Post
    exact Ok.zret dX7_canChange_85 rfl (by decide) K.1 K.2
  · obtain rfl : 86 = tgt := by rw [c1] at ht; exact Int.ofNat.inj ht
    have K := Kc1_1 c1
    refine Ok.aload_n (pc' := 87) rfl dX7_canChange_86 rfl ?_
    refine Ok.aload_n (pc' := 88) rfl dX7_canChange_87 rfl ?_
    refine Ok.getR (pc' := 91) (k := 0) dX7_canChange_88 rfl (shC_30 _) rfl inX7 (by decide) rfl wd_289 rfl ?_
    refine Ok.aload_n (pc' := 92) rfl dX7_canChange_91 rfl ?_
    refine Ok.getR (pc' := 95) (k := 0) dX7_canChange_92 rfl (shC_30 _) rfl inX7 (by decide) rfl wd_289 rfl ?_
    refine Ok.iload_n (pc' := 96) rfl dX7_canChange_95 rfl ?_
    refine Ok.iconst (pc' := 97) in_0 dX7_canChange_96 rfl ?_
    refine Ok.callV (pc' := 100) (av := [pI step, pI 0]) (rest := [pR 1, pR 30]) dX7_canChange_97 rfl (by decide) cvX7_canChange_108 (shC_1 _) rfl rfl rfl (leb rfl) (leb rfl) K (fun r3 h3 K => ?_)
    show Ok shC 0 0 mX7_canChange 100 [some (pR 30), some (pI step), some (pI params), none, none] [pI r3, pR 1, pR 30] h3 Post
    refine Ok.callV (pc' := 103) (av := [pI r3]) (rest := [pR 30]) dX7_canChange_100 rfl (by decide) cvX7_canChange_89 (shC_1 _) rfl rfl rfl (leb rfl) (leb rfl) K (fun r4 h4 K => ?_)
    show Ok shC 0 0 mX7_canChange 103 [some (pR 30), some (pI step), some (pI params), none, none] [pI r4, pR 30] h4 Post
    refine Ok.if_eq (tgt := 110) dX7_canChange_103 rfl rfl (fun c2 => ?_) (fun c2 => ?_)
    · replace K := K.1 c2
      refine Ok.iconst (pc' := 111) in_2 dX7_canChange_110 rfl ?_
      refine Ok.putI (pc' := 114) (k := 6) dX7_canChange_111 rfl (shC_30 _) rfl inX7 tyX7 tyX7_ok nmX7 (by decide) rfl wd_295 rfl rfl (Or.inl rfl) ?_
      refine Ok.aload_n (pc' := 115) rfl dX7_canChange_114 rfl ?_
      refine Ok.getR (pc' := 118) (k := 0) dX7_canChange_115 rfl (shC_30 _) rfl inX7 (by decide) rfl wd_289 rfl ?_
      refine Ok.aload_n (pc' := 119) rfl dX7_canChange_118 rfl ?_
      refine Ok.getR (pc' := 122) (k := 0) dX7_canChange_119 rfl (shC_30 _) rfl inX7 (by decide) rfl wd_289 rfl ?_
      refine Ok.iload_n (pc' := 123) rfl dX7_canChange_122 rfl ?_
      refine Ok.iconst (pc' := 124) in_0 dX7_canChange_123 rfl ?_
      refine Ok.callV (pc' := 127) (av := [pI step, pI 0]) (rest := [pR 1]) dX7_canChange_124 rfl (by decide) cvX7_canChange_108 (shC_1 _) rfl rfl rfl (leb rfl) (leb rfl) K (fun r5 h5 K => ?_)
      show Ok shC 0 0 mX7_canChange 127 [some (pR 30), some (pI step), some (pI params), none, none] [pI r5, pR 1] h5 Post
      refine Ok.callV (pc' := 130) (av := [pI r5]) (rest := []) dX7_canChange_127 rfl (by decide) cvX7_canChange_92 (shC_1 _) rfl rfl rfl (leb rfl) (leb rfl) K (fun r6 h6 K => ?_)
      show Ok shC 0 0 mX7_canChange 130 [some (pR 30), some (pI step), some (pI params), none, none] [pI r6] h6 Post
      refine Ok.if_ne (tgt := 137) dX7_canChange_130 rfl rfl (fun c3 => ?_) (fun c3 => ?_)
      · replace K := K.1 c3
        refine Ok.iconst (pc' := 138) in_0 dX7_canChange_137 rfl ?_
        exact Ok.zret dX7_canChange_138 rfl (by decide) (Or.inl rfl) K
      · replace K := K.2 c3
        refine Ok.iconst (pc' := 134) in_1 dX7_canChange_133 rfl ?_
        refine Ok.goto (tgt := 138) dX7_canChange_134 rfl ?_
        exact Ok.zret dX7_canChange_138 rfl (by decide) (Or.inr rfl) K
    · replace K := K.2 c2
      refine Ok.iconst (pc' := 107) in_1 dX7_canChange_106 rfl ?_
      refine Ok.goto (tgt := 111) dX7_canChange_107 rfl ?_
      refine Ok.putI (pc' := 114) (k := 6) dX7_canChange_111 rfl (shC_30 _) rfl inX7 tyX7 tyX7_ok nmX7 (by decide) rfl wd_295 rfl rfl (Or.inl rfl) ?_
      refine Ok.aload_n (pc' := 115) rfl dX7_canChange_114 rfl ?_
      refine Ok.getR (pc' := 118) (k := 0) dX7_canChange_115 rfl (shC_30 _) rfl inX7 (by decide) rfl wd_289 rfl ?_
      refine Ok.aload_n (pc' := 119) rfl dX7_canChange_118 rfl ?_
      refine Ok.getR (pc' := 122) (k := 0) dX7_canChange_119 rfl (shC_30 _) rfl inX7 (by decide) rfl wd_289 rfl ?_
      refine Ok.iload_n (pc' := 123) rfl dX7_canChange_122 rfl ?_
      refine Ok.iconst (pc' := 124) in_0 dX7_canChange_123 rfl ?_
      refine Ok.callV (pc' := 127) (av := [pI step, pI 0]) (rest := [pR 1]) dX7_canChange_124 rfl (by decide) cvX7_canChange_108 (shC_1 _) rfl rfl rfl (leb rfl) (leb rfl) K (fun r7 h7 K => ?_)
      show Ok shC 0 0 mX7_canChange 127 [some (pR 30), some (pI step), some (pI params), none, none] [pI r7, pR 1] h7 Post
      refine Ok.callV (pc' := 130) (av := [pI r7]) (rest := []) dX7_canChange_127 rfl (by decide) cvX7_canChange_92 (shC_1 _) rfl rfl rfl (leb rfl) (leb rfl) K (fun r8 h8 K => ?_)
      show Ok shC 0 0 mX7_canChange 130 [some (pR 30), some (pI step), some (pI params), none, none] [pI r8] h8 Post
      refine Ok.if_ne (tgt := 137) dX7_canChange_130 rfl rfl (fun c3 => ?_) (fun c3 => ?_)
      · replace K := K.1 c3
        refine Ok.iconst (pc' := 138) in_0 dX7_canChange_137 rfl ?_
        exact Ok.zret dX7_canChange_138 rfl (by decide) (Or.inl rfl) K
      · replace K := K.2 c3
        refine Ok.iconst (pc' := 134) in_1 dX7_canChange_133 rfl ?_
        refine Ok.goto (tgt := 138) dX7_canChange_134 rfl ?_
        exact Ok.zret dX7_canChange_138 rfl (by decide) (Or.inr rfl) K
  · obtain rfl : 177 = tgt := by rw [c1] at ht; exact Int.ofNat.inj ht
    have K := Kc1_2 c1
    refine Ok.aload_n (pc' := 178) rfl dX7_canChange_177 rfl ?_
    refine Ok.iconst (pc' := 179) in_1 dX7_canChange_178 rfl ?_
    refine Ok.putI (pc' := 182) (k := 6) dX7_canChange_179 rfl (shC_30 _) rfl inX7 tyX7 tyX7_ok nmX7 (by decide) rfl wd_295 rfl rfl (Or.inl rfl) ?_
    refine Ok.aload_n (pc' := 183) rfl dX7_canChange_182 rfl ?_
    refine Ok.getR (pc' := 186) (k := 0) dX7_canChange_183 rfl (shC_30 _) rfl inX7 (by decide) rfl wd_289 rfl ?_
    refine Ok.aload_n (pc' := 187) rfl dX7_canChange_186 rfl ?_
    refine Ok.getR (pc' := 190) (k := 0) dX7_canChange_187 rfl (shC_30 _) rfl inX7 (by decide) rfl wd_289 rfl ?_
    refine Ok.iload_n (pc' := 191) rfl dX7_canChange_190 rfl ?_
    refine Ok.iconst (pc' := 192) in_0 dX7_canChange_191 rfl ?_
    refine Ok.callV (pc' := 195) (av := [pI step, pI 0]) (rest := [pR 1]) dX7_canChange_192 rfl (by decide) cvX7_canChange_108 (shC_1 _) rfl rfl rfl (leb rfl) (leb rfl) K (fun r9 h9 K => ?_)
    show Ok shC 0 0 mX7_canChange 195 [some (pR 30), some (pI step), some (pI params), none, none] [pI r9, pR 1] h9 Post
    refine Ok.callV (pc' := 198) (av := [pI r9]) (rest := []) dX7_canChange_195 rfl (by decide) cvX7_canChange_92 (shC_1 _) rfl rfl rfl (leb rfl) (leb rfl) K (fun r10 h10 K => ?_)
    show Ok shC 0 0 mX7_canChange 198 [some (pR 30), some (pI step), some (pI params), none, none] [pI r10] h10 Post
    refine Ok.istore (pc' := 200) (ls' := [some (pR 30), some (pI step), some (pI params), none, some (pI r10)]) dX7_canChange_198 rfl (by decide) rfl rfl ?_
    refine Ok.iload (pc' := 202) rfl dX7_canChange_200 rfl ?_
    refine Ok.if_eq (tgt := 226) dX7_canChange_202 rfl rfl (fun c2 => ?_) (fun c2 => ?_)
    · replace K := K.1 c2
      refine Ok.iconst (pc' := 227) in_1 dX7_canChange_226 rfl ?_
      refine Ok.goto (tgt := 231) dX7_canChange_227 rfl ?_
      exact Ok.zret dX7_canChange_231 rfl (by decide) (Or.inr rfl) K
    · replace K := K.2 c2
      refine Ok.iload (pc' := 207) rfl dX7_canChange_205 rfl ?_
      refine Ok.iconst (pc' := 208) in_1 dX7_canChange_207 rfl ?_
      refine Ok.icmp_eq (tgt := 226) dX7_canChange_208 rfl rfl (fun c3 => ?_) (fun c3 => ?_)
      · replace K := K.1 c3
        refine Ok.iconst (pc' := 227) in_1 dX7_canChange_226 rfl ?_
        refine Ok.goto (tgt := 231) dX7_canChange_227 rfl ?_
        exact Ok.zret dX7_canChange_231 rfl (by decide) (Or.inr rfl) K
      · replace K := K.2 c3
        refine Ok.iload (pc' := 213) rfl dX7_canChange_211 rfl ?_
        refine Ok.iconst (pc' := 214) in_4 dX7_canChange_213 rfl ?_
        refine Ok.icmp_ne (tgt := 230) dX7_canChange_214 rfl rfl (fun c4 => ?_) (fun c4 => ?_)
        · replace K := K.1 c4
          refine Ok.iconst (pc' := 231) in_0 dX7_canChange_230 rfl ?_
          exact Ok.zret dX7_canChange_231 rfl (by decide) (Or.inl rfl) K
        · replace K := K.2 c4
          refine Ok.aload_n (pc' := 218) rfl dX7_canChange_217 rfl ?_
          refine Ok.iload_n (pc' := 219) rfl dX7_canChange_218 rfl ?_
          refine Ok.iload_n (pc' := 220) rfl dX7_canChange_219 rfl ?_
          refine Ok.callV (pc' := 223) (av := [pI step, pI params]) (rest := []) dX7_canChange_220 rfl (by decide) cvX7_canChange_112 (shC_30 _) rfl rfl rfl (leb rfl) (leb rfl) K (fun r11 h11 K => ?_)
          show Ok shC 0 0 mX7_canChange 223 [some (pR 30), some (pI step), some (pI params), none, some (pI r10)] [pI r11] h11 Post
          refine Ok.if_eq (tgt := 230) dX7_canChange_223 rfl rfl (fun c5 => ?_) (fun c5 => ?_)
          · replace K := K.1 c5
            refine Ok.iconst (pc' := 231) in_0 dX7_canChange_230 rfl ?_
            exact Ok.zret dX7_canChange_231 rfl (by decide) (Or.inl rfl) K
          · replace K := K.2 c5
            refine Ok.iconst (pc' := 227) in_1 dX7_canChange_226 rfl ?_
            refine Ok.goto (tgt := 231) dX7_canChange_227 rfl ?_
            exact Ok.zret dX7_canChange_231 rfl (by decide) (Or.inr rfl) K
  · obtain rfl : 139 = tgt := by rw [c1] at ht; exact Int.ofNat.inj ht
    have K := Kc1_3 c1
    refine Ok.aload_n (pc' := 140) rfl dX7_canChange_139 rfl ?_
    refine Ok.getR (pc' := 143) (k := 0) dX7_canChange_140 rfl (shC_30 _) rfl inX7 (by decide) rfl wd_289 rfl ?_
    refine Ok.iload_n (pc' := 144) rfl dX7_canChange_143 rfl ?_
    refine Ok.iconst (pc' := 145) in_0 dX7_canChange_144 rfl ?_
    refine Ok.callV (pc' := 148) (av := [pI step, pI 0]) (rest := []) dX7_canChange_145 rfl (by decide) cvX7_canChange_108 (shC_1 _) rfl rfl rfl (leb rfl) (leb rfl) K (fun r12 h12 K => ?_)
    show Ok shC 0 0 mX7_canChange 148 [some (pR 30), some (pI step), some (pI params), none, none] [pI r12] h12 Post
    refine Ok.istore_n (pc' := 149) (ls' := [some (pR 30), some (pI step), some (pI params), some (pI r12), none]) dX7_canChange_148 rfl (by decide) rfl rfl ?_
    refine Ok.aload_n (pc' := 150) rfl dX7_canChange_149 rfl ?_
    refine Ok.getR (pc' := 153) (k := 0) dX7_canChange_150 rfl (shC_30 _) rfl inX7 (by decide) rfl wd_289 rfl ?_
    refine Ok.iload_n (pc' := 154) rfl dX7_canChange_153 rfl ?_
    refine Ok.callV (pc' := 157) (av := [pI r12]) (rest := []) dX7_canChange_154 rfl (by decide) cvX7_canChange_92 (shC_1 _) rfl rfl rfl (leb rfl) (leb rfl) K (fun r13 h13 K => ?_)
    show Ok shC 0 0 mX7_canChange 157 [some (pR 30), some (pI step), some (pI params), some (pI r12), none] [pI r13] h13 Post
    refine Ok.if_ne (tgt := 175) dX7_canChange_157 rfl rfl (fun c2 => ?_) (fun c2 => ?_)
    · replace K := K.1 c2
      refine Ok.iconst (pc' := 176) in_0 dX7_canChange_175 rfl ?_
      exact Ok.zret dX7_canChange_176 rfl (by decide) (Or.inl rfl) K
    · replace K := K.2 c2
      refine Ok.aload_n (pc' := 161) rfl dX7_canChange_160 rfl ?_
      refine Ok.getR (pc' := 164) (k := 0) dX7_canChange_161 rfl (shC_30 _) rfl inX7 (by decide) rfl wd_289 rfl ?_
      refine Ok.iload_n (pc' := 165) rfl dX7_canChange_164 rfl ?_
      refine Ok.callV (pc' := 168) (av := [pI r12]) (rest := []) dX7_canChange_165 rfl (by decide) cvX7_canChange_89 (shC_1 _) rfl rfl rfl (leb rfl) (leb rfl) K (fun r14 h14 K => ?_)
      show Ok shC 0 0 mX7_canChange 168 [some (pR 30), some (pI step), some (pI params), some (pI r12), none] [pI r14] h14 Post
      refine Ok.if_ne (tgt := 175) dX7_canChange_168 rfl rfl (fun c3 => ?_) (fun c3 => ?_)
      · replace K := K.1 c3
        refine Ok.iconst (pc' := 176) in_0 dX7_canChange_175 rfl ?_
        exact Ok.zret dX7_canChange_176 rfl (by decide) (Or.inl rfl) K
      · replace K := K.2 c3
        refine Ok.iconst (pc' := 172) in_1 dX7_canChange_171 rfl ?_
        refine Ok.goto (tgt := 176) dX7_canChange_172 rfl ?_
        exact Ok.zret dX7_canChange_176 rfl (by decide) (Or.inr rfl) K
  · obtain rfl : 232 = tgt := by rw [c1] at ht; exact Int.ofNat.inj ht
    have K := Kc1_4 c1
    refine Ok.aload_n (pc' := 233) rfl dX7_canChange_232 rfl ?_
    refine Ok.iconst (pc' := 234) in_0 dX7_canChange_233 rfl ?_
    refine Ok.putI (pc' := 237) (k := 6) dX7_canChange_234 rfl (shC_30 _) rfl inX7 tyX7 tyX7_ok nmX7 (by decide) rfl wd_295 rfl rfl (Or.inl rfl) ?_
    refine Ok.aload_n (pc' := 238) rfl dX7_canChange_237 rfl ?_
    refine Ok.iload_n (pc' := 239) rfl dX7_canChange_238 rfl ?_
    refine Ok.callV (pc' := 242) (av := [pI step]) (rest := []) dX7_canChange_239 rfl (by decide) cvX7_canChange_115 (shC_30 _) rfl rfl rfl (leb rfl) (leb rfl) K (fun r15 h15 K => ?_)
    show Ok shC 0 0 mX7_canChange 242 [some (pR 30), some (pI step), some (pI params), none, none] [pI r15] h15 Post
    refine Ok.if_ne (tgt := 249) dX7_canChange_242 rfl rfl (fun c2 => ?_) (fun c2 => ?_)
    · replace K := K.1 c2
      refine Ok.iconst (pc' := 250) in_0 dX7_canChange_249 rfl ?_
      exact Ok.zret dX7_canChange_250 rfl (by decide) (Or.inl rfl) K
    · replace K := K.2 c2
      refine Ok.iconst (pc' := 246) in_1 dX7_canChange_245 rfl ?_
      refine Ok.goto (tgt := 250) dX7_canChange_246 rfl ?_
      exact Ok.zret dX7_canChange_250 rfl (by decide) (Or.inr rfl) K
  · obtain rfl : 251 = tgt := by
      rcases c1 with q | q | q | q | q | q | q
      · rw [swT_out (Or.inl q)] at ht; exact Int.ofNat.inj ht
      · rw [swT_out (Or.inr q)] at ht; exact Int.ofNat.inj ht
      · rw [q] at ht; exact Int.ofNat.inj ht
      · rw [q] at ht; exact Int.ofNat.inj ht
      · rw [q] at ht; exact Int.ofNat.inj ht
      · rw [q] at ht; exact Int.ofNat.inj ht
      · rw [q] at ht; exact Int.ofNat.inj ht
    have K := Kc1_5 c1
    refine Ok.iconst (pc' := 252) in_0 dX7_canChange_251 rfl ?_
    exact Ok.zret dX7_canChange_252 rfl (by decide) (Or.inl rfl) K
theorem sX7_canReckon_0 {step : Int} {h : Hp} {Post : Int → Hp → Prop}
    (K : Cl shC mX1_partOf [pR 1, pI step, pI 0] h (fun r1 h1 => Cl shC mX1_partOf [pR 1, pI step, pI 1] h1 (fun r2 h2 => Cl shC mX1_kindOf [pR 1, pI r1] h2 (fun r3 h3 => ((¬ r3 = 0) → Post 0 h3) ∧ ((r3 = 0) → Cl shC mX1_kindOf [pR 1, pI r2] h3 (fun r4 h4 => ((r4 = 0) → Cl shC mX1_numberOf [pR 1, pI step] h4 (fun r5 h5 => Cl shC mX1_numberOf [pR 1, pI r1] h5 (fun r6 h6 => Cl shC mX1_numberOf [pR 1, pI r2] h6 (fun r7 h7 => Cl shC mX8_reckon [pI r5, pI r6, pI r7] h7 (fun r8 h8 => Cl shC mX1_numberOf [pR 1, pI step] (hI h8 30 7 r8) (fun r9 h9 => ((¬ r9 = 3) → Post 1 h9) ∧ ((r9 = 3) → Cl shC mX1_numberOf [pR 1, pI r2] h9 (fun r10 h10 => ((r10 = 0) → Post 0 h10) ∧ ((¬ r10 = 0) → Post 1 h10))))))))) ∧ ((¬ r4 = 0) → Post 0 h4))))))) :
    Cl shC mX7_canReckon [pR 30, pI step] h Post := by
  show Ok shC 0 0 mX7_canReckon 0 [some (pR 30), some (pI step), none, none] [] h Post
  refine Ok.aload_n (pc' := 1) rfl dX7_canReckon_0 rfl ?_
  refine Ok.getR (pc' := 4) (k := 0) dX7_canReckon_1 rfl (shC_30 _) rfl inX7 (by decide) rfl wd_289 rfl ?_
  refine Ok.iload_n (pc' := 5) rfl dX7_canReckon_4 rfl ?_
  refine Ok.iconst (pc' := 6) in_0 dX7_canReckon_5 rfl ?_
  refine Ok.callV (pc' := 9) (av := [pI step, pI 0]) (rest := []) dX7_canReckon_6 rfl (by decide) cvX7_canReckon_108 (shC_1 _) rfl rfl rfl (leb rfl) (leb rfl) K (fun r1 h1 K => ?_)
  show Ok shC 0 0 mX7_canReckon 9 [some (pR 30), some (pI step), none, none] [pI r1] h1 Post
  refine Ok.istore_n (pc' := 10) (ls' := [some (pR 30), some (pI step), some (pI r1), none]) dX7_canReckon_9 rfl (by decide) rfl rfl ?_
  refine Ok.aload_n (pc' := 11) rfl dX7_canReckon_10 rfl ?_
  refine Ok.getR (pc' := 14) (k := 0) dX7_canReckon_11 rfl (shC_30 _) rfl inX7 (by decide) rfl wd_289 rfl ?_
  refine Ok.iload_n (pc' := 15) rfl dX7_canReckon_14 rfl ?_
  refine Ok.iconst (pc' := 16) in_1 dX7_canReckon_15 rfl ?_
  refine Ok.callV (pc' := 19) (av := [pI step, pI 1]) (rest := []) dX7_canReckon_16 rfl (by decide) cvX7_canReckon_108 (shC_1 _) rfl rfl rfl (leb rfl) (leb rfl) K (fun r2 h2 K => ?_)
  show Ok shC 0 0 mX7_canReckon 19 [some (pR 30), some (pI step), some (pI r1), none] [pI r2] h2 Post
  refine Ok.istore_n (pc' := 20) (ls' := [some (pR 30), some (pI step), some (pI r1), some (pI r2)]) dX7_canReckon_19 rfl (by decide) rfl rfl ?_
  refine Ok.aload_n (pc' := 21) rfl dX7_canReckon_20 rfl ?_
  refine Ok.getR (pc' := 24) (k := 0) dX7_canReckon_21 rfl (shC_30 _) rfl inX7 (by decide) rfl wd_289 rfl ?_
  refine Ok.iload_n (pc' := 25) rfl dX7_canReckon_24 rfl ?_
  refine Ok.callV (pc' := 28) (av := [pI r1]) (rest := []) dX7_canReckon_25 rfl (by decide) cvX7_canReckon_92 (shC_1 _) rfl rfl rfl (leb rfl) (leb rfl) K (fun r3 h3 K => ?_)
  show Ok shC 0 0 mX7_canReckon 28 [some (pR 30), some (pI step), some (pI r1), some (pI r2)] [pI r3] h3 Post
  refine Ok.if_ne (tgt := 42) dX7_canReckon_28 rfl rfl (fun c1 => ?_) (fun c1 => ?_)
  · replace K := K.1 c1
    refine Ok.iconst (pc' := 43) in_0 dX7_canReckon_42 rfl ?_
    exact Ok.zret dX7_canReckon_43 rfl (by decide) (Or.inl rfl) K
  · replace K := K.2 c1
    refine Ok.aload_n (pc' := 32) rfl dX7_canReckon_31 rfl ?_
    refine Ok.getR (pc' := 35) (k := 0) dX7_canReckon_32 rfl (shC_30 _) rfl inX7 (by decide) rfl wd_289 rfl ?_
    refine Ok.iload_n (pc' := 36) rfl dX7_canReckon_35 rfl ?_
    refine Ok.callV (pc' := 39) (av := [pI r2]) (rest := []) dX7_canReckon_36 rfl (by decide) cvX7_canReckon_92 (shC_1 _) rfl rfl rfl (leb rfl) (leb rfl) K (fun r4 h4 K => ?_)
    show Ok shC 0 0 mX7_canReckon 39 [some (pR 30), some (pI step), some (pI r1), some (pI r2)] [pI r4] h4 Post
    refine Ok.if_eq (tgt := 44) dX7_canReckon_39 rfl rfl (fun c2 => ?_) (fun c2 => ?_)
    · replace K := K.1 c2
      refine Ok.aload_n (pc' := 45) rfl dX7_canReckon_44 rfl ?_
      refine Ok.aload_n (pc' := 46) rfl dX7_canReckon_45 rfl ?_
      refine Ok.getR (pc' := 49) (k := 0) dX7_canReckon_46 rfl (shC_30 _) rfl inX7 (by decide) rfl wd_289 rfl ?_
      refine Ok.iload_n (pc' := 50) rfl dX7_canReckon_49 rfl ?_
      refine Ok.callV (pc' := 53) (av := [pI step]) (rest := [pR 30]) dX7_canReckon_50 rfl (by decide) cvX7_canReckon_89 (shC_1 _) rfl rfl rfl (leb rfl) (leb rfl) K (fun r5 h5 K => ?_)
      show Ok shC 0 0 mX7_canReckon 53 [some (pR 30), some (pI step), some (pI r1), some (pI r2)] [pI r5, pR 30] h5 Post
      refine Ok.aload_n (pc' := 54) rfl dX7_canReckon_53 rfl ?_
      refine Ok.getR (pc' := 57) (k := 0) dX7_canReckon_54 rfl (shC_30 _) rfl inX7 (by decide) rfl wd_289 rfl ?_
      refine Ok.iload_n (pc' := 58) rfl dX7_canReckon_57 rfl ?_
      refine Ok.callV (pc' := 61) (av := [pI r1]) (rest := [pI r5, pR 30]) dX7_canReckon_58 rfl (by decide) cvX7_canReckon_89 (shC_1 _) rfl rfl rfl (leb rfl) (leb rfl) K (fun r6 h6 K => ?_)
      show Ok shC 0 0 mX7_canReckon 61 [some (pR 30), some (pI step), some (pI r1), some (pI r2)] [pI r6, pI r5, pR 30] h6 Post
      refine Ok.aload_n (pc' := 62) rfl dX7_canReckon_61 rfl ?_
      refine Ok.getR (pc' := 65) (k := 0) dX7_canReckon_62 rfl (shC_30 _) rfl inX7 (by decide) rfl wd_289 rfl ?_
      refine Ok.iload_n (pc' := 66) rfl dX7_canReckon_65 rfl ?_
      refine Ok.callV (pc' := 69) (av := [pI r2]) (rest := [pI r6, pI r5, pR 30]) dX7_canReckon_66 rfl (by decide) cvX7_canReckon_89 (shC_1 _) rfl rfl rfl (leb rfl) (leb rfl) K (fun r7 h7 K => ?_)
      show Ok shC 0 0 mX7_canReckon 69 [some (pR 30), some (pI step), some (pI r1), some (pI r2)] [pI r7, pI r6, pI r5, pR 30] h7 Post
      refine Ok.callSN (pc' := 72) (av := [pI r5, pI r6, pI r7]) (rest := [pR 30]) dX7_canReckon_69 rfl (by decide) cvX7_canReckon_118 rfl rfl (leb rfl) (leb rfl) K (fun r8 h8 K => ?_)
      show Ok shC 0 0 mX7_canReckon 72 [some (pR 30), some (pI step), some (pI r1), some (pI r2)] [pI r8, pR 30] h8 Post
      refine Ok.putI (pc' := 75) (k := 7) dX7_canReckon_72 rfl (shC_30 _) rfl inX7 tyX7 tyX7_ok nmX7 (by decide) rfl wd_296 rfl rfl (Or.inl rfl) ?_
      refine Ok.aload_n (pc' := 76) rfl dX7_canReckon_75 rfl ?_
      refine Ok.getR (pc' := 79) (k := 0) dX7_canReckon_76 rfl (shC_30 _) rfl inX7 (by decide) rfl wd_289 rfl ?_
      refine Ok.iload_n (pc' := 80) rfl dX7_canReckon_79 rfl ?_
      refine Ok.callV (pc' := 83) (av := [pI step]) (rest := []) dX7_canReckon_80 rfl (by decide) cvX7_canReckon_89 (shC_1 _) rfl rfl rfl (leb rfl) (leb rfl) K (fun r9 h9 K => ?_)
      show Ok shC 0 0 mX7_canReckon 83 [some (pR 30), some (pI step), some (pI r1), some (pI r2)] [pI r9] h9 Post
      refine Ok.iconst (pc' := 84) in_3 dX7_canReckon_83 rfl ?_
      refine Ok.icmp_ne (tgt := 98) dX7_canReckon_84 rfl rfl (fun c3 => ?_) (fun c3 => ?_)
      · replace K := K.1 c3
        refine Ok.iconst (pc' := 99) in_1 dX7_canReckon_98 rfl ?_
        refine Ok.goto (tgt := 103) dX7_canReckon_99 rfl ?_
        exact Ok.zret dX7_canReckon_103 rfl (by decide) (Or.inr rfl) K
      · replace K := K.2 c3
        refine Ok.aload_n (pc' := 88) rfl dX7_canReckon_87 rfl ?_
        refine Ok.getR (pc' := 91) (k := 0) dX7_canReckon_88 rfl (shC_30 _) rfl inX7 (by decide) rfl wd_289 rfl ?_
        refine Ok.iload_n (pc' := 92) rfl dX7_canReckon_91 rfl ?_
        refine Ok.callV (pc' := 95) (av := [pI r2]) (rest := []) dX7_canReckon_92 rfl (by decide) cvX7_canReckon_89 (shC_1 _) rfl rfl rfl (leb rfl) (leb rfl) K (fun r10 h10 K => ?_)
        show Ok shC 0 0 mX7_canReckon 95 [some (pR 30), some (pI step), some (pI r1), some (pI r2)] [pI r10] h10 Post
        refine Ok.if_eq (tgt := 102) dX7_canReckon_95 rfl rfl (fun c4 => ?_) (fun c4 => ?_)
        · replace K := K.1 c4
          refine Ok.iconst (pc' := 103) in_0 dX7_canReckon_102 rfl ?_
          exact Ok.zret dX7_canReckon_103 rfl (by decide) (Or.inl rfl) K
        · replace K := K.2 c4
          refine Ok.iconst (pc' := 99) in_1 dX7_canReckon_98 rfl ?_
          refine Ok.goto (tgt := 103) dX7_canReckon_99 rfl ?_
          exact Ok.zret dX7_canReckon_103 rfl (by decide) (Or.inr rfl) K
    · replace K := K.2 c2
      refine Ok.iconst (pc' := 43) in_0 dX7_canReckon_42 rfl ?_
      exact Ok.zret dX7_canReckon_43 rfl (by decide) (Or.inl rfl) K
theorem sX7_canFix_0 {both params : Int} {h : Hp} {Post : Int → Hp → Prop}
    (K : Cl shC mX1_partOf [pR 1, pI both, pI 0] h (fun r1 h1 => Cl shC mX1_numberOf [pR 1, pI r1] h1 (fun r2 h2 => Cl shC mX1_partOf [pR 1, pI r1, pI 0] h2 (fun r3 h3 => Cl shC mX1_kindOf [pR 1, pI r3] h3 (fun r4 h4 => ((¬ r4 = 0) → Post 0 h4) ∧ ((r4 = 0) → ((r2 < params) → Post 0 h4) ∧ ((¬ r2 < params) → Cl shC mX8_isName [pI r2] h4 (fun r5 h5 => ((r5 = 0) → Post 0 h5) ∧ ((¬ r5 = 0) → ∃ k4 : Nat, r2 = (k4 : Int) ∧ k4 < 40 ∧ (((h5.1 36 k4 = 1) → Cl shC mX1_partOf [pR 1, pI both, pI 1] h5 (fun r6 h6 => Cl shC mX6_over [pR 31, pR 2, pI r6] h6 (fun _ h7 => Ok shC 0 0 mX7_canFix 99 [some (pR 30), none, none, none, some (pI r2), some (pI r3), some (pI 0), some (pI 0)] [] h7 Post))) ∧ ((¬ h5.1 36 k4 = 1) → Post 0 h5))))))))))) :
    Cl shC mX7_canFix [pR 30, pI both, pI params] h Post := by
  show Ok shC 0 0 mX7_canFix 0 [some (pR 30), some (pI both), some (pI params), none, none, none, none, none] [] h Post
  refine Ok.aload_n (pc' := 1) rfl dX7_canFix_0 rfl ?_
  refine Ok.getR (pc' := 4) (k := 0) dX7_canFix_1 rfl (shC_30 _) rfl inX7 (by decide) rfl wd_289 rfl ?_
  refine Ok.iload_n (pc' := 5) rfl dX7_canFix_4 rfl ?_
  refine Ok.iconst (pc' := 6) in_0 dX7_canFix_5 rfl ?_
  refine Ok.callV (pc' := 9) (av := [pI both, pI 0]) (rest := []) dX7_canFix_6 rfl (by decide) cvX7_canFix_108 (shC_1 _) rfl rfl rfl (leb rfl) (leb rfl) K (fun r1 h1 K => ?_)
  show Ok shC 0 0 mX7_canFix 9 [some (pR 30), some (pI both), some (pI params), none, none, none, none, none] [pI r1] h1 Post
  refine Ok.istore_n (pc' := 10) (ls' := [some (pR 30), some (pI both), some (pI params), some (pI r1), none, none, none, none]) dX7_canFix_9 rfl (by decide) rfl rfl ?_
  refine Ok.aload_n (pc' := 11) rfl dX7_canFix_10 rfl ?_
  refine Ok.getR (pc' := 14) (k := 0) dX7_canFix_11 rfl (shC_30 _) rfl inX7 (by decide) rfl wd_289 rfl ?_
  refine Ok.iload_n (pc' := 15) rfl dX7_canFix_14 rfl ?_
  refine Ok.callV (pc' := 18) (av := [pI r1]) (rest := []) dX7_canFix_15 rfl (by decide) cvX7_canFix_89 (shC_1 _) rfl rfl rfl (leb rfl) (leb rfl) K (fun r2 h2 K => ?_)
  show Ok shC 0 0 mX7_canFix 18 [some (pR 30), some (pI both), some (pI params), some (pI r1), none, none, none, none] [pI r2] h2 Post
  refine Ok.istore (pc' := 20) (ls' := [some (pR 30), some (pI both), some (pI params), some (pI r1), some (pI r2), none, none, none]) dX7_canFix_18 rfl (by decide) rfl rfl ?_
  refine Ok.aload_n (pc' := 21) rfl dX7_canFix_20 rfl ?_
  refine Ok.getR (pc' := 24) (k := 0) dX7_canFix_21 rfl (shC_30 _) rfl inX7 (by decide) rfl wd_289 rfl ?_
  refine Ok.iload_n (pc' := 25) rfl dX7_canFix_24 rfl ?_
  refine Ok.iconst (pc' := 26) in_0 dX7_canFix_25 rfl ?_
  refine Ok.callV (pc' := 29) (av := [pI r1, pI 0]) (rest := []) dX7_canFix_26 rfl (by decide) cvX7_canFix_108 (shC_1 _) rfl rfl rfl (leb rfl) (leb rfl) K (fun r3 h3 K => ?_)
  show Ok shC 0 0 mX7_canFix 29 [some (pR 30), some (pI both), some (pI params), some (pI r1), some (pI r2), none, none, none] [pI r3] h3 Post
  refine Ok.istore (pc' := 31) (ls' := [some (pR 30), some (pI both), some (pI params), some (pI r1), some (pI r2), some (pI r3), none, none]) dX7_canFix_29 rfl (by decide) rfl rfl ?_
  refine Ok.aload_n (pc' := 32) rfl dX7_canFix_31 rfl ?_
  refine Ok.getR (pc' := 35) (k := 0) dX7_canFix_32 rfl (shC_30 _) rfl inX7 (by decide) rfl wd_289 rfl ?_
  refine Ok.iload (pc' := 37) rfl dX7_canFix_35 rfl ?_
  refine Ok.callV (pc' := 40) (av := [pI r3]) (rest := []) dX7_canFix_37 rfl (by decide) cvX7_canFix_92 (shC_1 _) rfl rfl rfl (leb rfl) (leb rfl) K (fun r4 h4 K => ?_)
  show Ok shC 0 0 mX7_canFix 40 [some (pR 30), some (pI both), some (pI params), some (pI r1), some (pI r2), some (pI r3), none, none] [pI r4] h4 Post
  refine Ok.if_ne (tgt := 68) dX7_canFix_40 rfl rfl (fun c1 => ?_) (fun c1 => ?_)
  · replace K := K.1 c1
    refine Ok.iconst (pc' := 69) in_0 dX7_canFix_68 rfl ?_
    exact Ok.zret dX7_canFix_69 rfl (by decide) (Or.inl rfl) K
  · replace K := K.2 c1
    refine Ok.iload (pc' := 45) rfl dX7_canFix_43 rfl ?_
    refine Ok.iload_n (pc' := 46) rfl dX7_canFix_45 rfl ?_
    refine Ok.icmp_lt (tgt := 68) dX7_canFix_46 rfl rfl (fun c2 => ?_) (fun c2 => ?_)
    · replace K := K.1 c2
      refine Ok.iconst (pc' := 69) in_0 dX7_canFix_68 rfl ?_
      exact Ok.zret dX7_canFix_69 rfl (by decide) (Or.inl rfl) K
    · replace K := K.2 c2
      refine Ok.iload (pc' := 51) rfl dX7_canFix_49 rfl ?_
      refine Ok.callSN (pc' := 54) (av := [pI r2]) (rest := []) dX7_canFix_51 rfl (by decide) cvX7_canFix_95 rfl rfl (leb rfl) (leb rfl) K (fun r5 h5 K => ?_)
      show Ok shC 0 0 mX7_canFix 54 [some (pR 30), some (pI both), some (pI params), some (pI r1), some (pI r2), some (pI r3), none, none] [pI r5] h5 Post
      refine Ok.if_eq (tgt := 68) dX7_canFix_54 rfl rfl (fun c3 => ?_) (fun c3 => ?_)
      · replace K := K.1 c3
        refine Ok.iconst (pc' := 69) in_0 dX7_canFix_68 rfl ?_
        exact Ok.zret dX7_canFix_69 rfl (by decide) (Or.inl rfl) K
      · replace K := K.2 c3
        refine Ok.aload_n (pc' := 58) rfl dX7_canFix_57 rfl ?_
        refine Ok.getR (pc' := 61) (k := 3) dX7_canFix_58 rfl (shC_30 _) rfl inX7 (by decide) rfl wd_292 rfl ?_
        refine Ok.iload (pc' := 63) rfl dX7_canFix_61 rfl ?_
        obtain ⟨k4, e4, q4, K⟩ := K
        refine Ok.iald (pc' := 64) (z := h5.1 36 k4) dX7_canFix_63 rfl (shC_36 _) (by decide) e4 q4 rfl ?_
        refine Ok.iconst (pc' := 65) in_1 dX7_canFix_64 rfl ?_
        refine Ok.icmp_eq (tgt := 70) dX7_canFix_65 rfl rfl (fun c5 => ?_) (fun c5 => ?_)
        · replace K := K.1 c5
          refine Ok.aload_n (pc' := 71) rfl dX7_canFix_70 rfl ?_
          refine Ok.getR (pc' := 74) (k := 2) dX7_canFix_71 rfl (shC_30 _) rfl inX7 (by decide) rfl wd_291 rfl ?_
          refine Ok.aload_n (pc' := 75) rfl dX7_canFix_74 rfl ?_
          refine Ok.getR (pc' := 78) (k := 0) dX7_canFix_75 rfl (shC_30 _) rfl inX7 (by decide) rfl wd_289 rfl ?_
          refine Ok.getRN (pc' := 81) (k := 0) dX7_canFix_78 rfl (shC_1 _) rfl inX1 (by decide) rfl wd_189 rfl ?_
          refine Ok.aload_n (pc' := 82) rfl dX7_canFix_81 rfl ?_
          refine Ok.getR (pc' := 85) (k := 0) dX7_canFix_82 rfl (shC_30 _) rfl inX7 (by decide) rfl wd_289 rfl ?_
          refine Ok.iload_n (pc' := 86) rfl dX7_canFix_85 rfl ?_
          refine Ok.iconst (pc' := 87) in_1 dX7_canFix_86 rfl ?_
          refine Ok.callV (pc' := 90) (av := [pI both, pI 1]) (rest := [pR 2, pR 31]) dX7_canFix_87 rfl (by decide) cvX7_canFix_108 (shC_1 _) rfl rfl rfl (leb rfl) (leb rfl) K (fun r6 h6 K => ?_)
          show Ok shC 0 0 mX7_canFix 90 [some (pR 30), some (pI both), some (pI params), some (pI r1), some (pI r2), some (pI r3), none, none] [pI r6, pR 2, pR 31] h6 Post
          refine Ok.callV (pc' := 93) (av := [pR 2, pI r6]) (rest := []) dX7_canFix_90 rfl (by decide) cvX7_canFix_63 (shC_31 _) rfl rfl rfl (leb rfl) (leb rfl) K (fun r_ h7 K => ?_)
          show Ok shC 0 0 mX7_canFix 93 [some (pR 30), some (pI both), some (pI params), some (pI r1), some (pI r2), some (pI r3), none, none] [] h7 Post
          refine Ok.iconst (pc' := 94) in_0 dX7_canFix_93 rfl ?_
          refine Ok.istore (pc' := 96) (ls' := [some (pR 30), some (pI both), some (pI params), some (pI r1), some (pI r2), some (pI r3), some (pI 0), none]) dX7_canFix_94 rfl (by decide) rfl rfl ?_
          refine Ok.iconst (pc' := 97) in_0 dX7_canFix_96 rfl ?_
          refine Ok.istore (pc' := 99) (ls' := [some (pR 30), some (pI both), some (pI params), some (pI r1), some (pI r2), some (pI r3), some (pI 0), some (pI 0)]) dX7_canFix_97 rfl (by decide) rfl rfl ?_
          exact Ok.fl (ls' := [some (pR 30), none, none, none, some (pI r2), some (pI r3), some (pI 0), some (pI 0)]) K ⟨rfl, rfl, rfl, rfl, rfl, trivial⟩
        · replace K := K.2 c5
          refine Ok.iconst (pc' := 69) in_0 dX7_canFix_68 rfl ?_
          exact Ok.zret dX7_canFix_69 rfl (by decide) (Or.inl rfl) K
theorem sX7_canFix_99 {v4 v5 v6 v7 : Int} {h : Hp} {Post : Int → Hp → Prop}
    (K : ((h.2.1 31 4 ≤ v7) → Cl shC mX1_numberOf [pR 1, pI v5] (hI h 30 8 v4) (fun r1 h1 => ∃ k2 : Nat, v4 = (k2 : Int) ∧ k2 < 40 ∧ (((¬ v6 = h1.1 37 k2) → Post 0 (hI h1 30 7 r1)) ∧ ((v6 = h1.1 37 k2) → Post 1 (hI h1 30 7 r1))))) ∧ ((¬ h.2.1 31 4 ≤ v7) → ∃ k2 : Nat, v7 = (k2 : Int) ∧ k2 < 600 ∧ (Cl shC mX7_isNameStep [pR 30, pI (h.1 32 k2), pI v4] h (fun r2 h2 => ((r2 = 0) → inR ((v6 + 0)) ∧ (inR ((v7 + 1)) ∧ (Ok shC 0 0 mX7_canFix 99 [some (pR 30), none, none, none, some (pI v4), some (pI v5), some (pI (v6 + 0)), some (pI (v7 + 1))] [] h2 Post))) ∧ ((¬ r2 = 0) → inR ((v6 + 1)) ∧ (inR ((v7 + 1)) ∧ (Ok shC 0 0 mX7_canFix 99 [some (pR 30), none, none, none, some (pI v4), some (pI v5), some (pI (v6 + 1)), some (pI (v7 + 1))] [] h2 Post))))))) :
    Ok shC 0 0 mX7_canFix 99 [some (pR 30), none, none, none, some (pI v4), some (pI v5), some (pI v6), some (pI v7)] [] h Post := by
  show Ok shC 0 0 mX7_canFix 99 [some (pR 30), none, none, none, some (pI v4), some (pI v5), some (pI v6), some (pI v7)] [] h Post
  refine Ok.iload (pc' := 101) rfl dX7_canFix_99 rfl ?_
  refine Ok.aload_n (pc' := 102) rfl dX7_canFix_101 rfl ?_
  refine Ok.getR (pc' := 105) (k := 2) dX7_canFix_102 rfl (shC_30 _) rfl inX7 (by decide) rfl wd_291 rfl ?_
  refine Ok.getIN (pc' := 108) (z := h.2.1 31 4) (k := 4) dX7_canFix_105 rfl (shC_31 _) rfl inX6 (by decide) rfl rfl wd_174 rfl ?_
  refine Ok.icmp_ge (tgt := 146) dX7_canFix_108 rfl rfl (fun c1 => ?_) (fun c1 => ?_)
  · replace K := K.1 c1
    refine Ok.aload_n (pc' := 147) rfl dX7_canFix_146 rfl ?_
    refine Ok.iload (pc' := 149) rfl dX7_canFix_147 rfl ?_
    refine Ok.putI (pc' := 152) (k := 8) dX7_canFix_149 rfl (shC_30 _) rfl inX7 tyX7 tyX7_ok nmX7 (by decide) rfl wd_297 rfl rfl (Or.inl rfl) ?_
    refine Ok.aload_n (pc' := 153) rfl dX7_canFix_152 rfl ?_
    refine Ok.aload_n (pc' := 154) rfl dX7_canFix_153 rfl ?_
    refine Ok.getR (pc' := 157) (k := 0) dX7_canFix_154 rfl (shC_30 _) rfl inX7 (by decide) rfl wd_289 rfl ?_
    refine Ok.iload (pc' := 159) rfl dX7_canFix_157 rfl ?_
    refine Ok.callV (pc' := 162) (av := [pI v5]) (rest := [pR 30]) dX7_canFix_159 rfl (by decide) cvX7_canFix_89 (shC_1 _) rfl rfl rfl (leb rfl) (leb rfl) K (fun r1 h1 K => ?_)
    show Ok shC 0 0 mX7_canFix 162 [some (pR 30), none, none, none, some (pI v4), some (pI v5), some (pI v6), some (pI v7)] [pI r1, pR 30] h1 Post
    refine Ok.putI (pc' := 165) (k := 7) dX7_canFix_162 rfl (shC_30 _) rfl inX7 tyX7 tyX7_ok nmX7 (by decide) rfl wd_296 rfl rfl (Or.inl rfl) ?_
    refine Ok.iload (pc' := 167) rfl dX7_canFix_165 rfl ?_
    refine Ok.aload_n (pc' := 168) rfl dX7_canFix_167 rfl ?_
    refine Ok.getR (pc' := 171) (k := 4) dX7_canFix_168 rfl (shC_30 _) rfl inX7 (by decide) rfl wd_293 rfl ?_
    refine Ok.iload (pc' := 173) rfl dX7_canFix_171 rfl ?_
    obtain ⟨k2, e2, q2, K⟩ := K
    refine Ok.iald (pc' := 174) (z := h1.1 37 k2) dX7_canFix_173 rfl (shC_37 _) (by decide) e2 q2 rfl ?_
    refine Ok.icmp_ne (tgt := 181) dX7_canFix_174 rfl rfl (fun c3 => ?_) (fun c3 => ?_)
    · replace K := K.1 c3
      refine Ok.iconst (pc' := 182) in_0 dX7_canFix_181 rfl ?_
      exact Ok.zret dX7_canFix_182 rfl (by decide) (Or.inl rfl) K
    · replace K := K.2 c3
      refine Ok.iconst (pc' := 178) in_1 dX7_canFix_177 rfl ?_
      refine Ok.goto (tgt := 182) dX7_canFix_178 rfl ?_
      exact Ok.zret dX7_canFix_182 rfl (by decide) (Or.inr rfl) K
  · replace K := K.2 c1
    refine Ok.iload (pc' := 113) rfl dX7_canFix_111 rfl ?_
    refine Ok.aload_n (pc' := 114) rfl dX7_canFix_113 rfl ?_
    refine Ok.aload_n (pc' := 115) rfl dX7_canFix_114 rfl ?_
    refine Ok.getR (pc' := 118) (k := 2) dX7_canFix_115 rfl (shC_30 _) rfl inX7 (by decide) rfl wd_291 rfl ?_
    refine Ok.getRN (pc' := 121) (k := 0) dX7_canFix_118 rfl (shC_31 _) rfl inX6 (by decide) rfl wd_164 rfl ?_
    refine Ok.iload (pc' := 123) rfl dX7_canFix_121 rfl ?_
    obtain ⟨k2, e2, q2, K⟩ := K
    refine Ok.iald (pc' := 124) (z := h.1 32 k2) dX7_canFix_123 rfl (shC_32 _) (by decide) e2 q2 rfl ?_
    refine Ok.iload (pc' := 126) rfl dX7_canFix_124 rfl ?_
    refine Ok.callV (pc' := 129) (av := [pI (h.1 32 k2), pI v4]) (rest := [pI v6]) dX7_canFix_126 rfl (by decide) cvX7_canFix_122 (shC_30 _) rfl rfl rfl (leb rfl) (leb rfl) K (fun r2 h2 K => ?_)
    show Ok shC 0 0 mX7_canFix 129 [some (pR 30), none, none, none, some (pI v4), some (pI v5), some (pI v6), some (pI v7)] [pI r2, pI v6] h2 Post
    refine Ok.if_eq (tgt := 136) dX7_canFix_129 rfl rfl (fun c3 => ?_) (fun c3 => ?_)
    · replace K := K.1 c3
      refine Ok.iconst (pc' := 137) in_0 dX7_canFix_136 rfl ?_
      obtain ⟨q4, K⟩ := K
      refine Ok.iadd (pc' := 138) dX7_canFix_137 rfl q4 ?_
      refine Ok.istore (pc' := 140) (ls' := [some (pR 30), none, none, none, some (pI v4), some (pI v5), some (pI (v6 + 0)), some (pI v7)]) dX7_canFix_138 rfl (by decide) rfl rfl ?_
      obtain ⟨q5, K⟩ := K
      refine Ok.iinc (pc' := 143) (ls' := [some (pR 30), none, none, none, some (pI v4), some (pI v5), some (pI (v6 + 0)), some (pI (v7 + 1))]) dX7_canFix_140 rfl rfl (by decide) rfl rfl q5 ?_
      refine Ok.goto (tgt := 99) dX7_canFix_143 rfl ?_
      exact K
    · replace K := K.2 c3
      refine Ok.iconst (pc' := 133) in_1 dX7_canFix_132 rfl ?_
      refine Ok.goto (tgt := 137) dX7_canFix_133 rfl ?_
      obtain ⟨q4, K⟩ := K
      refine Ok.iadd (pc' := 138) dX7_canFix_137 rfl q4 ?_
      refine Ok.istore (pc' := 140) (ls' := [some (pR 30), none, none, none, some (pI v4), some (pI v5), some (pI (v6 + 1)), some (pI v7)]) dX7_canFix_138 rfl (by decide) rfl rfl ?_
      obtain ⟨q5, K⟩ := K
      refine Ok.iinc (pc' := 143) (ls' := [some (pR 30), none, none, none, some (pI v4), some (pI v5), some (pI (v6 + 1)), some (pI (v7 + 1))]) dX7_canFix_140 rfl rfl (by decide) rfl rfl q5 ?_
      refine Ok.goto (tgt := 99) dX7_canFix_143 rfl ?_
      exact K
theorem sX7_isNameStep_0 {step k0 : Int} {h : Hp} {Post : Int → Hp → Prop}
    (K : Cl shC mX1_kindOf [pR 1, pI step] h (fun r1 h1 => ((¬ r1 = 1) → Post 0 h1) ∧ ((r1 = 1) → Cl shC mX1_numberOf [pR 1, pI step] h1 (fun r2 h2 => ((¬ r2 = k0) → Post 0 h2) ∧ ((r2 = k0) → Post 1 h2))))) :
    Cl shC mX7_isNameStep [pR 30, pI step, pI k0] h Post := by
  show Ok shC 0 0 mX7_isNameStep 0 [some (pR 30), some (pI step), some (pI k0)] [] h Post
  refine Ok.aload_n (pc' := 1) rfl dX7_isNameStep_0 rfl ?_
  refine Ok.getR (pc' := 4) (k := 0) dX7_isNameStep_1 rfl (shC_30 _) rfl inX7 (by decide) rfl wd_289 rfl ?_
  refine Ok.iload_n (pc' := 5) rfl dX7_isNameStep_4 rfl ?_
  refine Ok.callV (pc' := 8) (av := [pI step]) (rest := []) dX7_isNameStep_5 rfl (by decide) cvX7_isNameStep_92 (shC_1 _) rfl rfl rfl (leb rfl) (leb rfl) K (fun r1 h1 K => ?_)
  show Ok shC 0 0 mX7_isNameStep 8 [some (pR 30), some (pI step), some (pI k0)] [pI r1] h1 Post
  refine Ok.iconst (pc' := 9) in_1 dX7_isNameStep_8 rfl ?_
  refine Ok.icmp_ne (tgt := 28) dX7_isNameStep_9 rfl rfl (fun c1 => ?_) (fun c1 => ?_)
  · replace K := K.1 c1
    refine Ok.iconst (pc' := 29) in_0 dX7_isNameStep_28 rfl ?_
    exact Ok.zret dX7_isNameStep_29 rfl (by decide) (Or.inl rfl) K
  · replace K := K.2 c1
    refine Ok.aload_n (pc' := 13) rfl dX7_isNameStep_12 rfl ?_
    refine Ok.getR (pc' := 16) (k := 0) dX7_isNameStep_13 rfl (shC_30 _) rfl inX7 (by decide) rfl wd_289 rfl ?_
    refine Ok.iload_n (pc' := 17) rfl dX7_isNameStep_16 rfl ?_
    refine Ok.callV (pc' := 20) (av := [pI step]) (rest := []) dX7_isNameStep_17 rfl (by decide) cvX7_isNameStep_89 (shC_1 _) rfl rfl rfl (leb rfl) (leb rfl) K (fun r2 h2 K => ?_)
    show Ok shC 0 0 mX7_isNameStep 20 [some (pR 30), some (pI step), some (pI k0)] [pI r2] h2 Post
    refine Ok.iload_n (pc' := 21) rfl dX7_isNameStep_20 rfl ?_
    refine Ok.icmp_ne (tgt := 28) dX7_isNameStep_21 rfl rfl (fun c2 => ?_) (fun c2 => ?_)
    · replace K := K.1 c2
      refine Ok.iconst (pc' := 29) in_0 dX7_isNameStep_28 rfl ?_
      exact Ok.zret dX7_isNameStep_29 rfl (by decide) (Or.inl rfl) K
    · replace K := K.2 c2
      refine Ok.iconst (pc' := 25) in_1 dX7_isNameStep_24 rfl ?_
      refine Ok.goto (tgt := 29) dX7_isNameStep_25 rfl ?_
      exact Ok.zret dX7_isNameStep_29 rfl (by decide) (Or.inr rfl) K
theorem sX7_isLeft_0 {block : Int} {h : Hp} {Post : Int → Hp → Prop}
    (K : Cl shC mX6_over [pR 31, pR 2, pI block] h (fun _ h1 => Ok shC 0 0 mX7_isLeft 20 [some (pR 30), none, some (pI 40), some (pI 1), none] [] h1 Post)) :
    Cl shC mX7_isLeft [pR 30, pI block] h Post := by
  show Ok shC 0 0 mX7_isLeft 0 [some (pR 30), some (pI block), none, none, none] [] h Post
  refine Ok.aload_n (pc' := 1) rfl dX7_isLeft_0 rfl ?_
  refine Ok.getR (pc' := 4) (k := 2) dX7_isLeft_1 rfl (shC_30 _) rfl inX7 (by decide) rfl wd_291 rfl ?_
  refine Ok.aload_n (pc' := 5) rfl dX7_isLeft_4 rfl ?_
  refine Ok.getR (pc' := 8) (k := 0) dX7_isLeft_5 rfl (shC_30 _) rfl inX7 (by decide) rfl wd_289 rfl ?_
  refine Ok.getRN (pc' := 11) (k := 0) dX7_isLeft_8 rfl (shC_1 _) rfl inX1 (by decide) rfl wd_189 rfl ?_
  refine Ok.iload_n (pc' := 12) rfl dX7_isLeft_11 rfl ?_
  refine Ok.callV (pc' := 15) (av := [pR 2, pI block]) (rest := []) dX7_isLeft_12 rfl (by decide) cvX7_isLeft_63 (shC_31 _) rfl rfl rfl (leb rfl) (leb rfl) K (fun r_ h1 K => ?_)
  show Ok shC 0 0 mX7_isLeft 15 [some (pR 30), some (pI block), none, none, none] [] h1 Post
  refine Ok.bipush (pc' := 17) ⟨by decide, by decide⟩ dX7_isLeft_15 rfl ?_
  refine Ok.istore_n (pc' := 18) (ls' := [some (pR 30), some (pI block), some (pI 40), none, none]) dX7_isLeft_17 rfl (by decide) rfl rfl ?_
  refine Ok.iconst (pc' := 19) in_1 dX7_isLeft_18 rfl ?_
  refine Ok.istore_n (pc' := 20) (ls' := [some (pR 30), some (pI block), some (pI 40), some (pI 1), none]) dX7_isLeft_19 rfl (by decide) rfl rfl ?_
  exact Ok.fl (ls' := [some (pR 30), none, some (pI 40), some (pI 1), none]) K ⟨rfl, rfl, rfl, trivial⟩
theorem sX7_isLeft_20 {v2 v3 : Int} {h : Hp} {Post : Int → Hp → Prop}
    (K : ((h.2.1 31 4 ≤ v3) → Post 0 h) ∧ ((¬ h.2.1 31 4 ≤ v3) → ∃ k2 : Nat, v3 = (k2 : Int) ∧ k2 < 600 ∧ (Cl shC mX1_kindOf [pR 1, pI (h.1 32 k2)] h (fun r1 h1 => ((v2 < h1.1 33 k2) → inR ((v3 + 1)) ∧ (Ok shC 0 0 mX7_isLeft 20 [some (pR 30), none, some (pI v2), some (pI (v3 + 1)), none] [] h1 Post)) ∧ ((¬ v2 < h1.1 33 k2) → ((¬ r1 = 11) → ((¬ r1 = 7) → inR ((v3 + 1)) ∧ (Ok shC 0 0 mX7_isLeft 20 [some (pR 30), none, some (pI 40), some (pI (v3 + 1)), none] [] h1 Post)) ∧ ((r1 = 7) → Post 1 h1)) ∧ ((r1 = 11) → ((¬ r1 = 7) → inR ((v3 + 1)) ∧ (Ok shC 0 0 mX7_isLeft 20 [some (pR 30), none, some (pI (h1.1 33 k2)), some (pI (v3 + 1)), none] [] h1 Post)) ∧ ((r1 = 7) → Post 1 h1))))))) :
    Ok shC 0 0 mX7_isLeft 20 [some (pR 30), none, some (pI v2), some (pI v3), none] [] h Post := by
  show Ok shC 0 0 mX7_isLeft 20 [some (pR 30), none, some (pI v2), some (pI v3), none] [] h Post
  refine Ok.iload_n (pc' := 21) rfl dX7_isLeft_20 rfl ?_
  refine Ok.aload_n (pc' := 22) rfl dX7_isLeft_21 rfl ?_
  refine Ok.getR (pc' := 25) (k := 2) dX7_isLeft_22 rfl (shC_30 _) rfl inX7 (by decide) rfl wd_291 rfl ?_
  refine Ok.getIN (pc' := 28) (z := h.2.1 31 4) (k := 4) dX7_isLeft_25 rfl (shC_31 _) rfl inX6 (by decide) rfl rfl wd_174 rfl ?_
  refine Ok.icmp_ge (tgt := 99) dX7_isLeft_28 rfl rfl (fun c1 => ?_) (fun c1 => ?_)
  · replace K := K.1 c1
    refine Ok.iconst (pc' := 100) in_0 dX7_isLeft_99 rfl ?_
    exact Ok.zret dX7_isLeft_100 rfl (by decide) (Or.inl rfl) K
  · replace K := K.2 c1
    refine Ok.aload_n (pc' := 32) rfl dX7_isLeft_31 rfl ?_
    refine Ok.getR (pc' := 35) (k := 0) dX7_isLeft_32 rfl (shC_30 _) rfl inX7 (by decide) rfl wd_289 rfl ?_
    refine Ok.aload_n (pc' := 36) rfl dX7_isLeft_35 rfl ?_
    refine Ok.getR (pc' := 39) (k := 2) dX7_isLeft_36 rfl (shC_30 _) rfl inX7 (by decide) rfl wd_291 rfl ?_
    refine Ok.getRN (pc' := 42) (k := 0) dX7_isLeft_39 rfl (shC_31 _) rfl inX6 (by decide) rfl wd_164 rfl ?_
    refine Ok.iload_n (pc' := 43) rfl dX7_isLeft_42 rfl ?_
    obtain ⟨k2, e2, q2, K⟩ := K
    refine Ok.iald (pc' := 44) (z := h.1 32 k2) dX7_isLeft_43 rfl (shC_32 _) (by decide) e2 q2 rfl ?_
    refine Ok.callV (pc' := 47) (av := [pI (h.1 32 k2)]) (rest := []) dX7_isLeft_44 rfl (by decide) cvX7_isLeft_92 (shC_1 _) rfl rfl rfl (leb rfl) (leb rfl) K (fun r1 h1 K => ?_)
    show Ok shC 0 0 mX7_isLeft 47 [some (pR 30), none, some (pI v2), some (pI v3), none] [pI r1] h1 Post
    refine Ok.istore (pc' := 49) (ls' := [some (pR 30), none, some (pI v2), some (pI v3), some (pI r1)]) dX7_isLeft_47 rfl (by decide) rfl rfl ?_
    refine Ok.aload_n (pc' := 50) rfl dX7_isLeft_49 rfl ?_
    refine Ok.getR (pc' := 53) (k := 2) dX7_isLeft_50 rfl (shC_30 _) rfl inX7 (by decide) rfl wd_291 rfl ?_
    refine Ok.getRN (pc' := 56) (k := 1) dX7_isLeft_53 rfl (shC_31 _) rfl inX6 (by decide) rfl wd_169 rfl ?_
    refine Ok.iload_n (pc' := 57) rfl dX7_isLeft_56 rfl ?_
    refine Ok.iald (pc' := 58) (z := h1.1 33 k2) dX7_isLeft_57 rfl (shC_33 _) (by decide) e2 q2 rfl ?_
    refine Ok.iload_n (pc' := 59) rfl dX7_isLeft_58 rfl ?_
    refine Ok.icmp_gt (tgt := 93) dX7_isLeft_59 rfl rfl (fun c3 => ?_) (fun c3 => ?_)
    · replace K := K.1 c3
      obtain ⟨q4, K⟩ := K
      refine Ok.iinc (pc' := 96) (ls' := [some (pR 30), none, some (pI v2), some (pI (v3 + 1)), some (pI r1)]) dX7_isLeft_93 rfl rfl (by decide) rfl rfl q4 ?_
      refine Ok.goto (tgt := 20) dX7_isLeft_96 rfl ?_
      exact Ok.fl (ls' := [some (pR 30), none, some (pI v2), some (pI (v3 + 1)), none]) K ⟨rfl, rfl, rfl, trivial⟩
    · replace K := K.2 c3
      refine Ok.iload (pc' := 64) rfl dX7_isLeft_62 rfl ?_
      refine Ok.bipush (pc' := 66) ⟨by decide, by decide⟩ dX7_isLeft_64 rfl ?_
      refine Ok.icmp_ne (tgt := 81) dX7_isLeft_66 rfl rfl (fun c4 => ?_) (fun c4 => ?_)
      · replace K := K.1 c4
        refine Ok.bipush (pc' := 83) ⟨by decide, by decide⟩ dX7_isLeft_81 rfl ?_
        refine Ok.istore_n (pc' := 84) (ls' := [some (pR 30), none, some (pI 40), some (pI v3), some (pI r1)]) dX7_isLeft_83 rfl (by decide) rfl rfl ?_
        refine Ok.iload (pc' := 86) rfl dX7_isLeft_84 rfl ?_
        refine Ok.bipush (pc' := 88) ⟨by decide, by decide⟩ dX7_isLeft_86 rfl ?_
        refine Ok.icmp_ne (tgt := 93) dX7_isLeft_88 rfl rfl (fun c5 => ?_) (fun c5 => ?_)
        · replace K := K.1 c5
          obtain ⟨q6, K⟩ := K
          refine Ok.iinc (pc' := 96) (ls' := [some (pR 30), none, some (pI 40), some (pI (v3 + 1)), some (pI r1)]) dX7_isLeft_93 rfl rfl (by decide) rfl rfl q6 ?_
          refine Ok.goto (tgt := 20) dX7_isLeft_96 rfl ?_
          exact Ok.fl (ls' := [some (pR 30), none, some (pI 40), some (pI (v3 + 1)), none]) K ⟨rfl, rfl, rfl, trivial⟩
        · replace K := K.2 c5
          refine Ok.iconst (pc' := 92) in_1 dX7_isLeft_91 rfl ?_
          exact Ok.zret dX7_isLeft_92 rfl (by decide) (Or.inr rfl) K
      · replace K := K.2 c4
        refine Ok.aload_n (pc' := 70) rfl dX7_isLeft_69 rfl ?_
        refine Ok.getR (pc' := 73) (k := 2) dX7_isLeft_70 rfl (shC_30 _) rfl inX7 (by decide) rfl wd_291 rfl ?_
        refine Ok.getRN (pc' := 76) (k := 1) dX7_isLeft_73 rfl (shC_31 _) rfl inX6 (by decide) rfl wd_169 rfl ?_
        refine Ok.iload_n (pc' := 77) rfl dX7_isLeft_76 rfl ?_
        refine Ok.iald (pc' := 78) (z := h1.1 33 k2) dX7_isLeft_77 rfl (shC_33 _) (by decide) e2 q2 rfl ?_
        refine Ok.goto (tgt := 83) dX7_isLeft_78 rfl ?_
        refine Ok.istore_n (pc' := 84) (ls' := [some (pR 30), none, some (pI (h1.1 33 k2)), some (pI v3), some (pI r1)]) dX7_isLeft_83 rfl (by decide) rfl rfl ?_
        refine Ok.iload (pc' := 86) rfl dX7_isLeft_84 rfl ?_
        refine Ok.bipush (pc' := 88) ⟨by decide, by decide⟩ dX7_isLeft_86 rfl ?_
        refine Ok.icmp_ne (tgt := 93) dX7_isLeft_88 rfl rfl (fun c5 => ?_) (fun c5 => ?_)
        · replace K := K.1 c5
          obtain ⟨q6, K⟩ := K
          refine Ok.iinc (pc' := 96) (ls' := [some (pR 30), none, some (pI (h1.1 33 k2)), some (pI (v3 + 1)), some (pI r1)]) dX7_isLeft_93 rfl rfl (by decide) rfl rfl q6 ?_
          refine Ok.goto (tgt := 20) dX7_isLeft_96 rfl ?_
          exact Ok.fl (ls' := [some (pR 30), none, some (pI (h1.1 33 k2)), some (pI (v3 + 1)), none]) K ⟨rfl, rfl, rfl, trivial⟩
        · replace K := K.2 c5
          refine Ok.iconst (pc' := 92) in_1 dX7_isLeft_91 rfl ?_
          exact Ok.zret dX7_isLeft_92 rfl (by decide) (Or.inr rfl) K
theorem sX7_change_0 {step : Int} {h : Hp} {Post : Int → Hp → Prop}
    (K : ((¬ h.2.1 30 6 = (-4)) → Cl shC mX1_partOf [pR 1, pI step, pI (h.2.1 30 6)] h (fun r1 h1 => Cl shC mX1_takePlace [pR 1, pI step, pI r1] h1 (fun _ h2 => Cl shC mX1_endTree [pR 1, pI step] h2 (fun _ h3 => Post 0 h3)))) ∧ ((h.2.1 30 6 = (-4)) → Cl shC mX7_becomeNumber [pR 30, pI step] h (fun _ h4 => Post 0 h4))) :
    Cl shC mX7_change [pR 30, pI step] h Post := by
  show Ok shC 0 0 mX7_change 0 [some (pR 30), some (pI step)] [] h Post
  refine Ok.aload_n (pc' := 1) rfl dX7_change_0 rfl ?_
  refine Ok.getI (pc' := 4) (z := h.2.1 30 6) (k := 6) dX7_change_1 rfl (shC_30 _) rfl inX7 (by decide) rfl rfl wd_295 rfl ?_
  refine Ok.bipush (pc' := 6) ⟨by decide, by decide⟩ dX7_change_4 rfl ?_
  refine Ok.icmp_ne (tgt := 15) dX7_change_6 rfl rfl (fun c1 => ?_) (fun c1 => ?_)
  · replace K := K.1 c1
    refine Ok.aload_n (pc' := 16) rfl dX7_change_15 rfl ?_
    refine Ok.getR (pc' := 19) (k := 0) dX7_change_16 rfl (shC_30 _) rfl inX7 (by decide) rfl wd_289 rfl ?_
    refine Ok.iload_n (pc' := 20) rfl dX7_change_19 rfl ?_
    refine Ok.aload_n (pc' := 21) rfl dX7_change_20 rfl ?_
    refine Ok.getR (pc' := 24) (k := 0) dX7_change_21 rfl (shC_30 _) rfl inX7 (by decide) rfl wd_289 rfl ?_
    refine Ok.iload_n (pc' := 25) rfl dX7_change_24 rfl ?_
    refine Ok.aload_n (pc' := 26) rfl dX7_change_25 rfl ?_
    refine Ok.getI (pc' := 29) (z := h.2.1 30 6) (k := 6) dX7_change_26 rfl (shC_30 _) rfl inX7 (by decide) rfl rfl wd_295 rfl ?_
    refine Ok.callV (pc' := 32) (av := [pI step, pI (h.2.1 30 6)]) (rest := [pI step, pR 1]) dX7_change_29 rfl (by decide) cvX7_change_108 (shC_1 _) rfl rfl rfl (leb rfl) (leb rfl) K (fun r1 h1 K => ?_)
    show Ok shC 0 0 mX7_change 32 [some (pR 30), some (pI step)] [pI r1, pI step, pR 1] h1 Post
    refine Ok.callV (pc' := 35) (av := [pI step, pI r1]) (rest := []) dX7_change_32 rfl (by decide) cvX7_change_131 (shC_1 _) rfl rfl rfl (leb rfl) (leb rfl) K (fun r_ h2 K => ?_)
    show Ok shC 0 0 mX7_change 35 [some (pR 30), some (pI step)] [] h2 Post
    refine Ok.aload_n (pc' := 36) rfl dX7_change_35 rfl ?_
    refine Ok.getR (pc' := 39) (k := 0) dX7_change_36 rfl (shC_30 _) rfl inX7 (by decide) rfl wd_289 rfl ?_
    refine Ok.iload_n (pc' := 40) rfl dX7_change_39 rfl ?_
    refine Ok.callV (pc' := 43) (av := [pI step]) (rest := []) dX7_change_40 rfl (by decide) cvX7_change_135 (shC_1 _) rfl rfl rfl (leb rfl) (leb rfl) K (fun r_ h3 K => ?_)
    show Ok shC 0 0 mX7_change 43 [some (pR 30), some (pI step)] [] h3 Post
    exact Ok.vret dX7_change_43 rfl (by decide) K
  · replace K := K.2 c1
    refine Ok.aload_n (pc' := 10) rfl dX7_change_9 rfl ?_
    refine Ok.iload_n (pc' := 11) rfl dX7_change_10 rfl ?_
    refine Ok.callV (pc' := 14) (av := [pI step]) (rest := []) dX7_change_11 rfl (by decide) cvX7_change_128 (shC_30 _) rfl rfl rfl (leb rfl) (leb rfl) K (fun r_ h4 K => ?_)
    show Ok shC 0 0 mX7_change 14 [some (pR 30), some (pI step)] [] h4 Post
    exact Ok.vret dX7_change_14 rfl (by decide) K
theorem sX7_namesBecomeNumbers_0 {h : Hp} {Post : Int → Hp → Prop}
    (K : Ok shC 0 0 mX7_namesBecomeNumbers 2 [some (pR 30), some (pI 0)] [] h Post) :
    Cl shC mX7_namesBecomeNumbers [pR 30] h Post := by
  show Ok shC 0 0 mX7_namesBecomeNumbers 0 [some (pR 30), none] [] h Post
  refine Ok.iconst (pc' := 1) in_0 dX7_namesBecomeNumbers_0 rfl ?_
  refine Ok.istore_n (pc' := 2) (ls' := [some (pR 30), some (pI 0)]) dX7_namesBecomeNumbers_1 rfl (by decide) rfl rfl ?_
  exact K
theorem sX7_namesBecomeNumbers_2 {v1 : Int} {h : Hp} {Post : Int → Hp → Prop}
    (K : ((h.2.1 31 4 ≤ v1) → Post 0 h) ∧ ((¬ h.2.1 31 4 ≤ v1) → ((¬ h.2.1 30 5 = 0) → Post 0 h) ∧ ((h.2.1 30 5 = 0) → ∃ k3 : Nat, v1 = (k3 : Int) ∧ k3 < 600 ∧ (Cl shC mX7_isNameStep [pR 30, pI (h.1 32 k3), pI (h.2.1 30 8)] h (fun r1 h1 => ((r1 = 0) → inR ((v1 + 1)) ∧ (Ok shC 0 0 mX7_namesBecomeNumbers 2 [some (pR 30), some (pI (v1 + 1))] [] h1 Post)) ∧ ((¬ r1 = 0) → Cl shC mX7_becomeNumber [pR 30, pI (h1.1 32 k3)] h1 (fun _ h2 => inR ((v1 + 1)) ∧ (Ok shC 0 0 mX7_namesBecomeNumbers 2 [some (pR 30), some (pI (v1 + 1))] [] h2 Post)))))))) :
    Ok shC 0 0 mX7_namesBecomeNumbers 2 [some (pR 30), some (pI v1)] [] h Post := by
  show Ok shC 0 0 mX7_namesBecomeNumbers 2 [some (pR 30), some (pI v1)] [] h Post
  refine Ok.iload_n (pc' := 3) rfl dX7_namesBecomeNumbers_2 rfl ?_
  refine Ok.aload_n (pc' := 4) rfl dX7_namesBecomeNumbers_3 rfl ?_
  refine Ok.getR (pc' := 7) (k := 2) dX7_namesBecomeNumbers_4 rfl (shC_30 _) rfl inX7 (by decide) rfl wd_291 rfl ?_
  refine Ok.getIN (pc' := 10) (z := h.2.1 31 4) (k := 4) dX7_namesBecomeNumbers_7 rfl (shC_31 _) rfl inX6 (by decide) rfl rfl wd_174 rfl ?_
  refine Ok.icmp_ge (tgt := 59) dX7_namesBecomeNumbers_10 rfl rfl (fun c1 => ?_) (fun c1 => ?_)
  · replace K := K.1 c1
    exact Ok.vret dX7_namesBecomeNumbers_59 rfl (by decide) K
  · replace K := K.2 c1
    refine Ok.aload_n (pc' := 14) rfl dX7_namesBecomeNumbers_13 rfl ?_
    refine Ok.getI (pc' := 17) (z := h.2.1 30 5) (k := 5) dX7_namesBecomeNumbers_14 rfl (shC_30 _) rfl inX7 (by decide) rfl rfl wd_294 rfl ?_
    refine Ok.if_ne (tgt := 59) dX7_namesBecomeNumbers_17 rfl rfl (fun c2 => ?_) (fun c2 => ?_)
    · replace K := K.1 c2
      exact Ok.vret dX7_namesBecomeNumbers_59 rfl (by decide) K
    · replace K := K.2 c2
      refine Ok.aload_n (pc' := 21) rfl dX7_namesBecomeNumbers_20 rfl ?_
      refine Ok.aload_n (pc' := 22) rfl dX7_namesBecomeNumbers_21 rfl ?_
      refine Ok.getR (pc' := 25) (k := 2) dX7_namesBecomeNumbers_22 rfl (shC_30 _) rfl inX7 (by decide) rfl wd_291 rfl ?_
      refine Ok.getRN (pc' := 28) (k := 0) dX7_namesBecomeNumbers_25 rfl (shC_31 _) rfl inX6 (by decide) rfl wd_164 rfl ?_
      refine Ok.iload_n (pc' := 29) rfl dX7_namesBecomeNumbers_28 rfl ?_
      obtain ⟨k3, e3, q3, K⟩ := K
      refine Ok.iald (pc' := 30) (z := h.1 32 k3) dX7_namesBecomeNumbers_29 rfl (shC_32 _) (by decide) e3 q3 rfl ?_
      refine Ok.aload_n (pc' := 31) rfl dX7_namesBecomeNumbers_30 rfl ?_
      refine Ok.getI (pc' := 34) (z := h.2.1 30 8) (k := 8) dX7_namesBecomeNumbers_31 rfl (shC_30 _) rfl inX7 (by decide) rfl rfl wd_297 rfl ?_
      refine Ok.callV (pc' := 37) (av := [pI (h.1 32 k3), pI (h.2.1 30 8)]) (rest := []) dX7_namesBecomeNumbers_34 rfl (by decide) cvX7_namesBecomeNumbers_122 (shC_30 _) rfl rfl rfl (leb rfl) (leb rfl) K (fun r1 h1 K => ?_)
      show Ok shC 0 0 mX7_namesBecomeNumbers 37 [some (pR 30), some (pI v1)] [pI r1] h1 Post
      refine Ok.if_eq (tgt := 53) dX7_namesBecomeNumbers_37 rfl rfl (fun c4 => ?_) (fun c4 => ?_)
      · replace K := K.1 c4
        obtain ⟨q5, K⟩ := K
        refine Ok.iinc (pc' := 56) (ls' := [some (pR 30), some (pI (v1 + 1))]) dX7_namesBecomeNumbers_53 rfl rfl (by decide) rfl rfl q5 ?_
        refine Ok.goto (tgt := 2) dX7_namesBecomeNumbers_56 rfl ?_
        exact K
      · replace K := K.2 c4
        refine Ok.aload_n (pc' := 41) rfl dX7_namesBecomeNumbers_40 rfl ?_
        refine Ok.aload_n (pc' := 42) rfl dX7_namesBecomeNumbers_41 rfl ?_
        refine Ok.getR (pc' := 45) (k := 2) dX7_namesBecomeNumbers_42 rfl (shC_30 _) rfl inX7 (by decide) rfl wd_291 rfl ?_
        refine Ok.getRN (pc' := 48) (k := 0) dX7_namesBecomeNumbers_45 rfl (shC_31 _) rfl inX6 (by decide) rfl wd_164 rfl ?_
        refine Ok.iload_n (pc' := 49) rfl dX7_namesBecomeNumbers_48 rfl ?_
        refine Ok.iald (pc' := 50) (z := h1.1 32 k3) dX7_namesBecomeNumbers_49 rfl (shC_32 _) (by decide) e3 q3 rfl ?_
        refine Ok.callV (pc' := 53) (av := [pI (h1.1 32 k3)]) (rest := []) dX7_namesBecomeNumbers_50 rfl (by decide) cvX7_namesBecomeNumbers_128 (shC_30 _) rfl rfl rfl (leb rfl) (leb rfl) K (fun r_ h2 K => ?_)
        show Ok shC 0 0 mX7_namesBecomeNumbers 53 [some (pR 30), some (pI v1)] [] h2 Post
        obtain ⟨q5, K⟩ := K
        refine Ok.iinc (pc' := 56) (ls' := [some (pR 30), some (pI (v1 + 1))]) dX7_namesBecomeNumbers_53 rfl rfl (by decide) rfl rfl q5 ?_
        refine Ok.goto (tgt := 2) dX7_namesBecomeNumbers_56 rfl ?_
        exact K
theorem sX7_becomeNumber_0 {step : Int} {h : Hp} {Post : Int → Hp → Prop}
    (K : Cl shC mX1_add [pR 1, pI 0, pI (h.2.1 30 7)] h (fun r1 h1 => ((¬ r1 = (-4)) → Cl shC mX1_takePlace [pR 1, pI step, pI r1] h1 (fun _ h2 => Cl shC mX1_endTree [pR 1, pI step] h2 (fun _ h3 => Post 0 h3))) ∧ ((r1 = (-4)) → Post 0 (hI h1 30 5 1)))) :
    Cl shC mX7_becomeNumber [pR 30, pI step] h Post := by
  show Ok shC 0 0 mX7_becomeNumber 0 [some (pR 30), some (pI step), none] [] h Post
  refine Ok.aload_n (pc' := 1) rfl dX7_becomeNumber_0 rfl ?_
  refine Ok.getR (pc' := 4) (k := 0) dX7_becomeNumber_1 rfl (shC_30 _) rfl inX7 (by decide) rfl wd_289 rfl ?_
  refine Ok.iconst (pc' := 5) in_0 dX7_becomeNumber_4 rfl ?_
  refine Ok.aload_n (pc' := 6) rfl dX7_becomeNumber_5 rfl ?_
  refine Ok.getI (pc' := 9) (z := h.2.1 30 7) (k := 7) dX7_becomeNumber_6 rfl (shC_30 _) rfl inX7 (by decide) rfl rfl wd_296 rfl ?_
  refine Ok.callV (pc' := 12) (av := [pI 0, pI (h.2.1 30 7)]) (rest := []) dX7_becomeNumber_9 rfl (by decide) cvX7_becomeNumber_138 (shC_1 _) rfl rfl rfl (leb rfl) (leb rfl) K (fun r1 h1 K => ?_)
  show Ok shC 0 0 mX7_becomeNumber 12 [some (pR 30), some (pI step), none] [pI r1] h1 Post
  refine Ok.istore_n (pc' := 13) (ls' := [some (pR 30), some (pI step), some (pI r1)]) dX7_becomeNumber_12 rfl (by decide) rfl rfl ?_
  refine Ok.iload_n (pc' := 14) rfl dX7_becomeNumber_13 rfl ?_
  refine Ok.bipush (pc' := 16) ⟨by decide, by decide⟩ dX7_becomeNumber_14 rfl ?_
  refine Ok.icmp_ne (tgt := 25) dX7_becomeNumber_16 rfl rfl (fun c1 => ?_) (fun c1 => ?_)
  · replace K := K.1 c1
    refine Ok.aload_n (pc' := 26) rfl dX7_becomeNumber_25 rfl ?_
    refine Ok.getR (pc' := 29) (k := 0) dX7_becomeNumber_26 rfl (shC_30 _) rfl inX7 (by decide) rfl wd_289 rfl ?_
    refine Ok.iload_n (pc' := 30) rfl dX7_becomeNumber_29 rfl ?_
    refine Ok.iload_n (pc' := 31) rfl dX7_becomeNumber_30 rfl ?_
    refine Ok.callV (pc' := 34) (av := [pI step, pI r1]) (rest := []) dX7_becomeNumber_31 rfl (by decide) cvX7_becomeNumber_131 (shC_1 _) rfl rfl rfl (leb rfl) (leb rfl) K (fun r_ h2 K => ?_)
    show Ok shC 0 0 mX7_becomeNumber 34 [some (pR 30), some (pI step), some (pI r1)] [] h2 Post
    refine Ok.aload_n (pc' := 35) rfl dX7_becomeNumber_34 rfl ?_
    refine Ok.getR (pc' := 38) (k := 0) dX7_becomeNumber_35 rfl (shC_30 _) rfl inX7 (by decide) rfl wd_289 rfl ?_
    refine Ok.iload_n (pc' := 39) rfl dX7_becomeNumber_38 rfl ?_
    refine Ok.callV (pc' := 42) (av := [pI step]) (rest := []) dX7_becomeNumber_39 rfl (by decide) cvX7_becomeNumber_135 (shC_1 _) rfl rfl rfl (leb rfl) (leb rfl) K (fun r_ h3 K => ?_)
    show Ok shC 0 0 mX7_becomeNumber 42 [some (pR 30), some (pI step), some (pI r1)] [] h3 Post
    exact Ok.vret dX7_becomeNumber_42 rfl (by decide) K
  · replace K := K.2 c1
    refine Ok.aload_n (pc' := 20) rfl dX7_becomeNumber_19 rfl ?_
    refine Ok.iconst (pc' := 21) in_1 dX7_becomeNumber_20 rfl ?_
    refine Ok.putI (pc' := 24) (k := 5) dX7_becomeNumber_21 rfl (shC_30 _) rfl inX7 tyX7 tyX7_ok nmX7 (by decide) rfl wd_294 rfl rfl (Or.inr ⟨rfl, Or.inr rfl⟩) ?_
    exact Ok.vret dX7_becomeNumber_24 rfl (by decide) K
