/-! THE LAW: a turn of its loop, and the loop -/
section LWL
variable {p : Program} {l : Launch} {e : Env} {s : State} {m : MethodId} {below : List Frame} {meth : Method} {c : Code} {b L : Nat} {xs : Nat → Int32} {D : va_G} {cI cQ : ClassId}
def LW (s : State) (D : va_G) (cI cQ : ClassId) (ad1 ad2 : Nat → Nat) (h g : Hp) (H : Heap) (locs : List Loc) : Prop := va_P D vwCl (wld cI cQ ad1 (shC h.2.2) h) H ∧ va_D (lwA s) (wld cI cQ ad1 (shC h.2.2) h) ∧ va_P D vwCl (wld cI cQ ad2 (shM g.2.2) g) H ∧ va_D (lwA s) (wld cI cQ ad2 (shM g.2.2) g) ∧ va_S (lwA s) s.heap H locs ∧ cnH h ∧ cnH g ∧ stZ ad1 (lwA s) s ∧ stZ ad2 (lwA s) s ∧ apt (wld cI cQ ad1 (shC h.2.2) h) (wld cI cQ ad2 (shM g.2.2) g)
theorem lw_case (C0 : lw_At p s m meth c b L xs) (hK : va_K D vwCl [(cI, .int), (cQ, .object RX5)] s) (hL : L ≤ 3072) {n pc T idx1 idx2 : Nat} {off : Int} {F G : MI} {ty1 ty2 : FieldType} {i cells slots : Nat} {ad1 ad2 : Nat → Nat} {h g : Hp} {H : Heap} {locs : List Loc} {LS : Array Slot} {st' : St} {r : Int}
    (Wd0 : LW s D cI cQ ad1 ad2 h g H locs) (hl : lv_has LS 4 [(3, .int (i32 (i : Int))), (0, .ref b), (1, .ref (ad1 0)), (2, .ref (ad2 0))]) (hi : i + n < L)
    (d1 : decode code pc = .ok (.aload_n 1, 1)) (p1 : PushAt (pc + 1) n) (d2 : decode code (pc + 1 + 5 * n) = .ok (.invokevirtual idx1, 3)) (d3 : decode code (pc + 1 + 5 * n + 3) = .ok (.aload_n 2, 1)) (p2 : PushAt (pc + 1 + 5 * n + 3 + 1) n) (d4 : decode code (pc + 1 + 5 * n + 3 + 1 + 5 * n) = .ok (.invokevirtual idx2, 3)) (d5 : decode code (pc + 1 + 5 * n + 3 + 1 + 5 * n + 3) = .ok (.if_icmp .eq off, 3)) (ht : ((pc + 1 + 5 * n + 3 + 1 + 5 * n + 3 : Nat) : Int) + off = ((920 : Nat) : Int))
    (cF : CV mLaw idx1 F n) (cG : CV mLaw idx2 G n) (f1 : F.1 = RX8) (g1 : G.1 = RX9) (f2 : F.2.2.2.2.1 = some ty1) (g2 : G.2.2.2.2.1 = some ty2) (f3 : (eaux (pR 0 :: lwx xs i n)).length ≤ F.2.2.2.1) (g3 : (eaux (pR 0 :: lwx xs i n)).length ≤ G.2.2.2.1)
    (hT : cells + 7 * T ≤ 600000 ∧ slots + 3628 * T ≤ 7302250)
    (hF : Ok shC T 0 F 0 (ents (pR 0 :: lwx xs i n) F.2.2.2.1) [] h (fun q h' => q = r ∧ RelC st' h'))
    (hG : Ok shM 0 0 G 0 (ents (pR 0 :: lwx xs i n) G.2.2.2.1) [] g (fun q g' => q = r ∧ RelM st' g'))
    (kk : ∀ (ad1' ad2' : Nat → Nat) (h' g' : Hp) (H' : Heap) (locs' : List Loc), ad1' 0 = ad1 0 → ad2' 0 = ad2 0 → RelC st' h' → RelM st' g' → LW s D cI cQ ad1' ad2' h' g' H' locs' → W p l e room_1 s m #[Value.ref b] below meth c H' locs' (cells + 7 * T) (slots + 3628 * T) (lw_Z below #[Value.ref b] s) (F0 m 920 LS [])) :
    W p l e room_1 s m #[Value.ref b] below meth c H locs cells slots (lw_Z below #[Value.ref b] s) (F0 m pc LS []) := by
  obtain ⟨hx, hb, hrt, hml, hown, hts, hX, hbl, hlocks, hgv⟩ := id C0
  obtain ⟨P1, D1, P2, D2, hS, c1, c2, z1, z2, ap⟩ := Wd0
  refine lv_aload_n hx hb d1 rfl (lv_at hl 2 rfl) ?_
  refine lw_push C0 hL hS (lv_at hl 1 rfl) (lv_at hl 0 rfl) ad1 n (pc + 1) _ p1 hi ?_
  refine lw_call C0 hK (Sg := shC) (T := T) (ci := 8) P1 D1 hS c1 z1 P2 ap d2 cF f2 (shC_0 _) (by rw [f1]; rfl) rfl lwx_cn lwx_len f3 (by decide) hl.1 hT hF (fun c => by rw [shC_len]; omega) (fun r1 h' ad1' H1 locs1 q1 c1' e1 P1' D1' hS1 z1' P2' ap' => ?_)
  obtain ⟨rfl, rc⟩ := q1
  refine lv_aload_n hx hb d3 rfl (lv_at hl 3 rfl) ?_
  refine lw_push C0 hL hS1 (lv_at hl 1 rfl) (lv_at hl 0 rfl) ad2 n (pc + 1 + 5 * n + 3 + 1) _ p2 hi ?_
  refine lw_call C0 hK (Sg := shM) (T := 0) (ci := 9) P2' D2 hS1 c2 z2 P1' ap'.sy d4 cG g2 (shM_0 _) (by rw [g1]; rfl) rfl lwx_cn lwx_len g3 (leb rfl) hl.1 hT hG (fun c => Nat.zero_lt_succ _) (fun r2 g' ad2' H2 locs2 q2 c2' e2 P2'' D2' hS2 z2' P1'' ap'' => ?_)
  obtain ⟨rfl, rm⟩ := q2
  refine lv_icmp_eq (tgt := 920) hx hb d5 ht (fun _ => ?_) (fun c => absurd rfl c)
  exact kk ad1' ad2' h' g' H2 locs2 e1 e2 rc rm ⟨P1'', D1', P2'', D2', hS2, c1', c2', z1', z2', ap''.sy⟩
def LNext (p : Program) (l : Launch) (e : Env) (s : State) (m : MethodId) (below : List Frame) (meth : Method) (c : Code) (b : Nat) (D : va_G) (cI cQ : ClassId) (a1 a2 : Nat) (LS : Array Slot) (cells slots : Nat) : Prop := ∀ (T : Nat), T ≤ 1 → ∀ (st' : St) (ad1' ad2' : Nat → Nat) (h' g' : Hp) (H' : Heap) (locs' : List Loc), WS st' → ad1' 0 = a1 → ad2' 0 = a2 → RelC st' h' → RelM st' g' → LW s D cI cQ ad1' ad2' h' g' H' locs' → W p l e room_1 s m #[Value.ref b] below meth c H' locs' (cells + 7 * T) (slots + 3628 * T) (lw_Z below #[Value.ref b] s) (F0 m 920 LS [])
theorem lwk_number (C0 : lw_At p s m meth c b L xs) (hK : va_K D vwCl [(cI, .int), (cQ, .object RX5)] s) (hL : L ≤ 3072) {i cells slots : Nat} {ad1 ad2 : Nat → Nat} {h g : Hp} {H : Heap} {locs : List Loc} {LS : Array Slot} {st : St}
    (Wd0 : LW s D cI cQ ad1 ad2 h g H locs) (hl : lv_has LS 4 [(3, .int (i32 (i : Int))), (0, .ref b), (1, .ref (ad1 0)), (2, .ref (ad2 0))]) (hi : i + 6 ≤ L) (hT : cells + 7 ≤ 600000 ∧ slots + 3628 ≤ 7302250) (w : WS st) (rc : RelC st h) (rm : RelM st g) (kk : LNext p l e s m below meth c b D cI cQ (ad1 0) (ad2 0) LS cells slots) :
    W p l e room_1 s m #[Value.ref b] below meth c H locs cells slots (lw_Z below #[Value.ref b] s) (F0 m 152 LS []) := by
  have q : Sim st mX8_number mX9_number (lwx xs i 1) := sim_number w _
  obtain ⟨r, st', w', hF, hG⟩ := q h g rc rm
  exact lw_case C0 hK hL (n := 1) (pc := 152) (T := 0) Wd0 hl (by omega) dW_152 pu_153 dW_158 dW_161 pu_162 dW_167 dW_170 (by decide) cvL8_number cvL9_number rfl rfl rfl rfl (leb rfl) (leb rfl) (by omega) hF hG (fun ad1' ad2' h' g' H' locs' e1 e2 rc' rm' W' => kk 0 (by decide) st' ad1' ad2' h' g' H' locs' w' e1 e2 rc' rm' W')
theorem lwk_name (C0 : lw_At p s m meth c b L xs) (hK : va_K D vwCl [(cI, .int), (cQ, .object RX5)] s) (hL : L ≤ 3072) {i cells slots : Nat} {ad1 ad2 : Nat → Nat} {h g : Hp} {H : Heap} {locs : List Loc} {LS : Array Slot} {st : St}
    (Wd0 : LW s D cI cQ ad1 ad2 h g H locs) (hl : lv_has LS 4 [(3, .int (i32 (i : Int))), (0, .ref b), (1, .ref (ad1 0)), (2, .ref (ad2 0))]) (hi : i + 6 ≤ L) (hT : cells + 7 ≤ 600000 ∧ slots + 3628 ≤ 7302250) (w : WS st) (rc : RelC st h) (rm : RelM st g) (kk : LNext p l e s m below meth c b D cI cQ (ad1 0) (ad2 0) LS cells slots) :
    W p l e room_1 s m #[Value.ref b] below meth c H locs cells slots (lw_Z below #[Value.ref b] s) (F0 m 175 LS []) := by
  have q : Sim st mX8_name mX9_name (lwx xs i 1) := sim_name w _
  obtain ⟨r, st', w', hF, hG⟩ := q h g rc rm
  exact lw_case C0 hK hL (n := 1) (pc := 175) (T := 0) Wd0 hl (by omega) dW_175 pu_176 dW_181 dW_184 pu_185 dW_190 dW_193 (by decide) cvL8_name cvL9_name rfl rfl rfl rfl (leb rfl) (leb rfl) (by omega) hF hG (fun ad1' ad2' h' g' H' locs' e1 e2 rc' rm' W' => kk 0 (by decide) st' ad1' ad2' h' g' H' locs' w' e1 e2 rc' rm' W')
theorem lwk_act (C0 : lw_At p s m meth c b L xs) (hK : va_K D vwCl [(cI, .int), (cQ, .object RX5)] s) (hL : L ≤ 3072) {i cells slots : Nat} {ad1 ad2 : Nat → Nat} {h g : Hp} {H : Heap} {locs : List Loc} {LS : Array Slot} {st : St}
    (Wd0 : LW s D cI cQ ad1 ad2 h g H locs) (hl : lv_has LS 4 [(3, .int (i32 (i : Int))), (0, .ref b), (1, .ref (ad1 0)), (2, .ref (ad2 0))]) (hi : i + 6 ≤ L) (hT : cells + 7 ≤ 600000 ∧ slots + 3628 ≤ 7302250) (w : WS st) (rc : RelC st h) (rm : RelM st g) (kk : LNext p l e s m below meth c b D cI cQ (ad1 0) (ad2 0) LS cells slots) :
    W p l e room_1 s m #[Value.ref b] below meth c H locs cells slots (lw_Z below #[Value.ref b] s) (F0 m 198 LS []) := by
  have q : Sim st mX8_act mX9_act (lwx xs i 3) := sim_act w _ _ _
  obtain ⟨r, st', w', hF, hG⟩ := q h g rc rm
  exact lw_case C0 hK hL (n := 3) (pc := 198) (T := 0) Wd0 hl (by omega) dW_198 pu_199 dW_214 dW_217 pu_218 dW_233 dW_236 (by decide) cvL8_act cvL9_act rfl rfl rfl rfl (leb rfl) (leb rfl) (by omega) hF hG (fun ad1' ad2' h' g' H' locs' e1 e2 rc' rm' W' => kk 0 (by decide) st' ad1' ad2' h' g' H' locs' w' e1 e2 rc' rm' W')
theorem lwk_join (C0 : lw_At p s m meth c b L xs) (hK : va_K D vwCl [(cI, .int), (cQ, .object RX5)] s) (hL : L ≤ 3072) {i cells slots : Nat} {ad1 ad2 : Nat → Nat} {h g : Hp} {H : Heap} {locs : List Loc} {LS : Array Slot} {st : St}
    (Wd0 : LW s D cI cQ ad1 ad2 h g H locs) (hl : lv_has LS 4 [(3, .int (i32 (i : Int))), (0, .ref b), (1, .ref (ad1 0)), (2, .ref (ad2 0))]) (hi : i + 6 ≤ L) (hT : cells + 7 ≤ 600000 ∧ slots + 3628 ≤ 7302250) (w : WS st) (rc : RelC st h) (rm : RelM st g) (kk : LNext p l e s m below meth c b D cI cQ (ad1 0) (ad2 0) LS cells slots) :
    W p l e room_1 s m #[Value.ref b] below meth c H locs cells slots (lw_Z below #[Value.ref b] s) (F0 m 241 LS []) := by
  have q : Sim st mX8_join mX9_join (lwx xs i 4) := sim_join w _ _ _ _
  obtain ⟨r, st', w', hF, hG⟩ := q h g rc rm
  exact lw_case C0 hK hL (n := 4) (pc := 241) (T := 0) Wd0 hl (by omega) dW_241 pu_242 dW_262 dW_265 pu_266 dW_286 dW_289 (by decide) cvL8_join cvL9_join rfl rfl rfl rfl (leb rfl) (leb rfl) (by omega) hF hG (fun ad1' ad2' h' g' H' locs' e1 e2 rc' rm' W' => kk 0 (by decide) st' ad1' ad2' h' g' H' locs' w' e1 e2 rc' rm' W')
theorem lwk_set (C0 : lw_At p s m meth c b L xs) (hK : va_K D vwCl [(cI, .int), (cQ, .object RX5)] s) (hL : L ≤ 3072) {i cells slots : Nat} {ad1 ad2 : Nat → Nat} {h g : Hp} {H : Heap} {locs : List Loc} {LS : Array Slot} {st : St}
    (Wd0 : LW s D cI cQ ad1 ad2 h g H locs) (hl : lv_has LS 4 [(3, .int (i32 (i : Int))), (0, .ref b), (1, .ref (ad1 0)), (2, .ref (ad2 0))]) (hi : i + 6 ≤ L) (hT : cells + 7 ≤ 600000 ∧ slots + 3628 ≤ 7302250) (w : WS st) (rc : RelC st h) (rm : RelM st g) (kk : LNext p l e s m below meth c b D cI cQ (ad1 0) (ad2 0) LS cells slots) :
    W p l e room_1 s m #[Value.ref b] below meth c H locs cells slots (lw_Z below #[Value.ref b] s) (F0 m 294 LS []) := by
  have q : Sim st mX8_set mX9_set (lwx xs i 2) := sim_set w _ _
  obtain ⟨r, st', w', hF, hG⟩ := q h g rc rm
  exact lw_case C0 hK hL (n := 2) (pc := 294) (T := 0) Wd0 hl (by omega) dW_294 pu_295 dW_305 dW_308 pu_309 dW_319 dW_322 (by decide) cvL8_set cvL9_set rfl rfl rfl rfl (leb rfl) (leb rfl) (by omega) hF hG (fun ad1' ad2' h' g' H' locs' e1 e2 rc' rm' W' => kk 0 (by decide) st' ad1' ad2' h' g' H' locs' w' e1 e2 rc' rm' W')
theorem lwk_call (C0 : lw_At p s m meth c b L xs) (hK : va_K D vwCl [(cI, .int), (cQ, .object RX5)] s) (hL : L ≤ 3072) {i cells slots : Nat} {ad1 ad2 : Nat → Nat} {h g : Hp} {H : Heap} {locs : List Loc} {LS : Array Slot} {st : St}
    (Wd0 : LW s D cI cQ ad1 ad2 h g H locs) (hl : lv_has LS 4 [(3, .int (i32 (i : Int))), (0, .ref b), (1, .ref (ad1 0)), (2, .ref (ad2 0))]) (hi : i + 6 ≤ L) (hT : cells + 7 ≤ 600000 ∧ slots + 3628 ≤ 7302250) (w : WS st) (rc : RelC st h) (rm : RelM st g) (kk : LNext p l e s m below meth c b D cI cQ (ad1 0) (ad2 0) LS cells slots) :
    W p l e room_1 s m #[Value.ref b] below meth c H locs cells slots (lw_Z below #[Value.ref b] s) (F0 m 327 LS []) := by
  have q : Sim st mX8_call mX9_call (lwx xs i 4) := sim_call w _ _ _ _
  obtain ⟨r, st', w', hF, hG⟩ := q h g rc rm
  exact lw_case C0 hK hL (n := 4) (pc := 327) (T := 0) Wd0 hl (by omega) dW_327 pu_328 dW_348 dW_351 pu_352 dW_372 dW_375 (by decide) cvL8_call cvL9_call rfl rfl rfl rfl (leb rfl) (leb rfl) (by omega) hF hG (fun ad1' ad2' h' g' H' locs' e1 e2 rc' rm' W' => kk 0 (by decide) st' ad1' ad2' h' g' H' locs' w' e1 e2 rc' rm' W')
theorem lwk_routine (C0 : lw_At p s m meth c b L xs) (hK : va_K D vwCl [(cI, .int), (cQ, .object RX5)] s) (hL : L ≤ 3072) {i cells slots : Nat} {ad1 ad2 : Nat → Nat} {h g : Hp} {H : Heap} {locs : List Loc} {LS : Array Slot} {st : St}
    (Wd0 : LW s D cI cQ ad1 ad2 h g H locs) (hl : lv_has LS 4 [(3, .int (i32 (i : Int))), (0, .ref b), (1, .ref (ad1 0)), (2, .ref (ad2 0))]) (hi : i + 6 ≤ L) (hT : cells + 7 ≤ 600000 ∧ slots + 3628 ≤ 7302250) (w : WS st) (rc : RelC st h) (rm : RelM st g) (kk : LNext p l e s m below meth c b D cI cQ (ad1 0) (ad2 0) LS cells slots) :
    W p l e room_1 s m #[Value.ref b] below meth c H locs cells slots (lw_Z below #[Value.ref b] s) (F0 m 380 LS []) := by
  have q : Sim st mX8_routine mX9_routine (lwx xs i 1) := sim_routine w _
  obtain ⟨r, st', w', hF, hG⟩ := q h g rc rm
  exact lw_case C0 hK hL (n := 1) (pc := 380) (T := 0) Wd0 hl (by omega) dW_380 pu_381 dW_386 dW_389 pu_390 dW_395 dW_398 (by decide) cvL8_routine cvL9_routine rfl rfl rfl rfl (leb rfl) (leb rfl) (by omega) hF hG (fun ad1' ad2' h' g' H' locs' e1 e2 rc' rm' W' => kk 0 (by decide) st' ad1' ad2' h' g' H' locs' w' e1 e2 rc' rm' W')
theorem lwk_body (C0 : lw_At p s m meth c b L xs) (hK : va_K D vwCl [(cI, .int), (cQ, .object RX5)] s) (hL : L ≤ 3072) {i cells slots : Nat} {ad1 ad2 : Nat → Nat} {h g : Hp} {H : Heap} {locs : List Loc} {LS : Array Slot} {st : St}
    (Wd0 : LW s D cI cQ ad1 ad2 h g H locs) (hl : lv_has LS 4 [(3, .int (i32 (i : Int))), (0, .ref b), (1, .ref (ad1 0)), (2, .ref (ad2 0))]) (hi : i + 6 ≤ L) (hT : cells + 7 ≤ 600000 ∧ slots + 3628 ≤ 7302250) (w : WS st) (rc : RelC st h) (rm : RelM st g) (kk : LNext p l e s m below meth c b D cI cQ (ad1 0) (ad2 0) LS cells slots) :
    W p l e room_1 s m #[Value.ref b] below meth c H locs cells slots (lw_Z below #[Value.ref b] s) (F0 m 403 LS []) := by
  have q : Sim1 st mX8_body mX9_body (lwx xs i 2) := sim_body w _ _
  obtain ⟨r, st', w', hF, hG⟩ := q h g rc rm
  exact lw_case C0 hK hL (n := 2) (pc := 403) (T := 1) Wd0 hl (by omega) dW_403 pu_404 dW_414 dW_417 pu_418 dW_428 dW_431 (by decide) cvL8_body cvL9_body rfl rfl rfl rfl (leb rfl) (leb rfl) (by omega) hF hG (fun ad1' ad2' h' g' H' locs' e1 e2 rc' rm' W' => kk 1 (by decide) st' ad1' ad2' h' g' H' locs' w' e1 e2 rc' rm' W')
theorem lwk_told (C0 : lw_At p s m meth c b L xs) (hK : va_K D vwCl [(cI, .int), (cQ, .object RX5)] s) (hL : L ≤ 3072) {i cells slots : Nat} {ad1 ad2 : Nat → Nat} {h g : Hp} {H : Heap} {locs : List Loc} {LS : Array Slot} {st : St}
    (Wd0 : LW s D cI cQ ad1 ad2 h g H locs) (hl : lv_has LS 4 [(3, .int (i32 (i : Int))), (0, .ref b), (1, .ref (ad1 0)), (2, .ref (ad2 0))]) (hi : i + 6 ≤ L) (hT : cells + 7 ≤ 600000 ∧ slots + 3628 ≤ 7302250) (w : WS st) (rc : RelC st h) (rm : RelM st g) (kk : LNext p l e s m below meth c b D cI cQ (ad1 0) (ad2 0) LS cells slots) :
    W p l e room_1 s m #[Value.ref b] below meth c H locs cells slots (lw_Z below #[Value.ref b] s) (F0 m 436 LS []) := by
  have q : Sim st mX8_told mX9_told (lwx xs i 2) := sim_told w _ _
  obtain ⟨r, st', w', hF, hG⟩ := q h g rc rm
  exact lw_case C0 hK hL (n := 2) (pc := 436) (T := 0) Wd0 hl (by omega) dW_436 pu_437 dW_447 dW_450 pu_451 dW_461 dW_464 (by decide) cvL8_told cvL9_told rfl rfl rfl rfl (leb rfl) (leb rfl) (by omega) hF hG (fun ad1' ad2' h' g' H' locs' e1 e2 rc' rm' W' => kk 0 (by decide) st' ad1' ad2' h' g' H' locs' w' e1 e2 rc' rm' W')
theorem lwk_about (C0 : lw_At p s m meth c b L xs) (hK : va_K D vwCl [(cI, .int), (cQ, .object RX5)] s) (hL : L ≤ 3072) {i cells slots : Nat} {ad1 ad2 : Nat → Nat} {h g : Hp} {H : Heap} {locs : List Loc} {LS : Array Slot} {st : St}
    (Wd0 : LW s D cI cQ ad1 ad2 h g H locs) (hl : lv_has LS 4 [(3, .int (i32 (i : Int))), (0, .ref b), (1, .ref (ad1 0)), (2, .ref (ad2 0))]) (hi : i + 6 ≤ L) (hT : cells + 7 ≤ 600000 ∧ slots + 3628 ≤ 7302250) (w : WS st) (rc : RelC st h) (rm : RelM st g) (kk : LNext p l e s m below meth c b D cI cQ (ad1 0) (ad2 0) LS cells slots) :
    W p l e room_1 s m #[Value.ref b] below meth c H locs cells slots (lw_Z below #[Value.ref b] s) (F0 m 469 LS []) := by
  have q : Sim st mX8_about mX9_about (lwx xs i 2) := sim_about w _ _
  obtain ⟨r, st', w', hF, hG⟩ := q h g rc rm
  exact lw_case C0 hK hL (n := 2) (pc := 469) (T := 0) Wd0 hl (by omega) dW_469 pu_470 dW_480 dW_483 pu_484 dW_494 dW_497 (by decide) cvL8_about cvL9_about rfl rfl rfl rfl (leb rfl) (leb rfl) (by omega) hF hG (fun ad1' ad2' h' g' H' locs' e1 e2 rc' rm' W' => kk 0 (by decide) st' ad1' ad2' h' g' H' locs' w' e1 e2 rc' rm' W')
theorem lwk_same (C0 : lw_At p s m meth c b L xs) (hK : va_K D vwCl [(cI, .int), (cQ, .object RX5)] s) (hL : L ≤ 3072) {i cells slots : Nat} {ad1 ad2 : Nat → Nat} {h g : Hp} {H : Heap} {locs : List Loc} {LS : Array Slot} {st : St}
    (Wd0 : LW s D cI cQ ad1 ad2 h g H locs) (hl : lv_has LS 4 [(3, .int (i32 (i : Int))), (0, .ref b), (1, .ref (ad1 0)), (2, .ref (ad2 0))]) (hi : i + 6 ≤ L) (hT : cells + 7 ≤ 600000 ∧ slots + 3628 ≤ 7302250) (w : WS st) (rc : RelC st h) (rm : RelM st g) (kk : LNext p l e s m below meth c b D cI cQ (ad1 0) (ad2 0) LS cells slots) :
    W p l e room_1 s m #[Value.ref b] below meth c H locs cells slots (lw_Z below #[Value.ref b] s) (F0 m 502 LS []) := by
  have q : Sim st mX8_same mX9_same (lwx xs i 2) := sim_same w _ _
  obtain ⟨r, st', w', hF, hG⟩ := q h g rc rm
  exact lw_case C0 hK hL (n := 2) (pc := 502) (T := 0) Wd0 hl (by omega) dW_502 pu_503 dW_513 dW_516 pu_517 dW_527 dW_530 (by decide) cvL8_same cvL9_same rfl rfl rfl rfl (leb rfl) (leb rfl) (by omega) hF hG (fun ad1' ad2' h' g' H' locs' e1 e2 rc' rm' W' => kk 0 (by decide) st' ad1' ad2' h' g' H' locs' w' e1 e2 rc' rm' W')
theorem lwk_run (C0 : lw_At p s m meth c b L xs) (hK : va_K D vwCl [(cI, .int), (cQ, .object RX5)] s) (hL : L ≤ 3072) {i cells slots : Nat} {ad1 ad2 : Nat → Nat} {h g : Hp} {H : Heap} {locs : List Loc} {LS : Array Slot} {st : St}
    (Wd0 : LW s D cI cQ ad1 ad2 h g H locs) (hl : lv_has LS 4 [(3, .int (i32 (i : Int))), (0, .ref b), (1, .ref (ad1 0)), (2, .ref (ad2 0))]) (hi : i + 6 ≤ L) (hT : cells + 7 ≤ 600000 ∧ slots + 3628 ≤ 7302250) (w : WS st) (rc : RelC st h) (rm : RelM st g) (kk : LNext p l e s m below meth c b D cI cQ (ad1 0) (ad2 0) LS cells slots) :
    W p l e room_1 s m #[Value.ref b] below meth c H locs cells slots (lw_Z below #[Value.ref b] s) (F0 m 535 LS []) := by
  have q : Sim st mX8_run mX9_run (lwx xs i 5) := sim_run w _ _ _ _ _
  obtain ⟨r, st', w', hF, hG⟩ := q h g rc rm
  exact lw_case C0 hK hL (n := 5) (pc := 535) (T := 0) Wd0 hl (by omega) dW_535 pu_536 dW_561 dW_564 pu_565 dW_590 dW_593 (by decide) cvL8_run cvL9_run rfl rfl rfl rfl (leb rfl) (leb rfl) (by omega) hF hG (fun ad1' ad2' h' g' H' locs' e1 e2 rc' rm' W' => kk 0 (by decide) st' ad1' ad2' h' g' H' locs' w' e1 e2 rc' rm' W')
theorem lwk_ran (C0 : lw_At p s m meth c b L xs) (hK : va_K D vwCl [(cI, .int), (cQ, .object RX5)] s) (hL : L ≤ 3072) {i cells slots : Nat} {ad1 ad2 : Nat → Nat} {h g : Hp} {H : Heap} {locs : List Loc} {LS : Array Slot} {st : St}
    (Wd0 : LW s D cI cQ ad1 ad2 h g H locs) (hl : lv_has LS 4 [(3, .int (i32 (i : Int))), (0, .ref b), (1, .ref (ad1 0)), (2, .ref (ad2 0))]) (hi : i + 6 ≤ L) (hT : cells + 7 ≤ 600000 ∧ slots + 3628 ≤ 7302250) (w : WS st) (rc : RelC st h) (rm : RelM st g) (kk : LNext p l e s m below meth c b D cI cQ (ad1 0) (ad2 0) LS cells slots) :
    W p l e room_1 s m #[Value.ref b] below meth c H locs cells slots (lw_Z below #[Value.ref b] s) (F0 m 598 LS []) := by
  have q : Sim st mX8_ran mX9_ran (lwx xs i 1) := sim_ran w _
  obtain ⟨r, st', w', hF, hG⟩ := q h g rc rm
  exact lw_case C0 hK hL (n := 1) (pc := 598) (T := 0) Wd0 hl (by omega) dW_598 pu_599 dW_604 dW_607 pu_608 dW_613 dW_616 (by decide) cvL8_ran cvL9_ran rfl rfl rfl rfl (leb rfl) (leb rfl) (by omega) hF hG (fun ad1' ad2' h' g' H' locs' e1 e2 rc' rm' W' => kk 0 (by decide) st' ad1' ad2' h' g' H' locs' w' e1 e2 rc' rm' W')
theorem lwk_row (C0 : lw_At p s m meth c b L xs) (hK : va_K D vwCl [(cI, .int), (cQ, .object RX5)] s) (hL : L ≤ 3072) {i cells slots : Nat} {ad1 ad2 : Nat → Nat} {h g : Hp} {H : Heap} {locs : List Loc} {LS : Array Slot} {st : St}
    (Wd0 : LW s D cI cQ ad1 ad2 h g H locs) (hl : lv_has LS 4 [(3, .int (i32 (i : Int))), (0, .ref b), (1, .ref (ad1 0)), (2, .ref (ad2 0))]) (hi : i + 6 ≤ L) (hT : cells + 7 ≤ 600000 ∧ slots + 3628 ≤ 7302250) (w : WS st) (rc : RelC st h) (rm : RelM st g) (kk : LNext p l e s m below meth c b D cI cQ (ad1 0) (ad2 0) LS cells slots) :
    W p l e room_1 s m #[Value.ref b] below meth c H locs cells slots (lw_Z below #[Value.ref b] s) (F0 m 621 LS []) := by
  have q : Sim st mX8_row mX9_row (lwx xs i 1) := sim_row w _
  obtain ⟨r, st', w', hF, hG⟩ := q h g rc rm
  exact lw_case C0 hK hL (n := 1) (pc := 621) (T := 0) Wd0 hl (by omega) dW_621 pu_622 dW_627 dW_630 pu_631 dW_636 dW_639 (by decide) cvL8_row cvL9_row rfl rfl rfl rfl (leb rfl) (leb rfl) (by omega) hF hG (fun ad1' ad2' h' g' H' locs' e1 e2 rc' rm' W' => kk 0 (by decide) st' ad1' ad2' h' g' H' locs' w' e1 e2 rc' rm' W')
theorem lwk_lay (C0 : lw_At p s m meth c b L xs) (hK : va_K D vwCl [(cI, .int), (cQ, .object RX5)] s) (hL : L ≤ 3072) {i cells slots : Nat} {ad1 ad2 : Nat → Nat} {h g : Hp} {H : Heap} {locs : List Loc} {LS : Array Slot} {st : St}
    (Wd0 : LW s D cI cQ ad1 ad2 h g H locs) (hl : lv_has LS 4 [(3, .int (i32 (i : Int))), (0, .ref b), (1, .ref (ad1 0)), (2, .ref (ad2 0))]) (hi : i + 6 ≤ L) (hT : cells + 7 ≤ 600000 ∧ slots + 3628 ≤ 7302250) (w : WS st) (rc : RelC st h) (rm : RelM st g) (kk : LNext p l e s m below meth c b D cI cQ (ad1 0) (ad2 0) LS cells slots) :
    W p l e room_1 s m #[Value.ref b] below meth c H locs cells slots (lw_Z below #[Value.ref b] s) (F0 m 644 LS []) := by
  have q : Sim st mX8_lay mX9_lay (lwx xs i 2) := sim_lay w _ _
  obtain ⟨r, st', w', hF, hG⟩ := q h g rc rm
  exact lw_case C0 hK hL (n := 2) (pc := 644) (T := 0) Wd0 hl (by omega) dW_644 pu_645 dW_655 dW_658 pu_659 dW_669 dW_672 (by decide) cvL8_lay cvL9_lay rfl rfl rfl rfl (leb rfl) (leb rfl) (by omega) hF hG (fun ad1' ad2' h' g' H' locs' e1 e2 rc' rm' W' => kk 0 (by decide) st' ad1' ad2' h' g' H' locs' w' e1 e2 rc' rm' W')
theorem lwk_clearCounts (C0 : lw_At p s m meth c b L xs) (hK : va_K D vwCl [(cI, .int), (cQ, .object RX5)] s) (hL : L ≤ 3072) {i cells slots : Nat} {ad1 ad2 : Nat → Nat} {h g : Hp} {H : Heap} {locs : List Loc} {LS : Array Slot} {st : St}
    (Wd0 : LW s D cI cQ ad1 ad2 h g H locs) (hl : lv_has LS 4 [(3, .int (i32 (i : Int))), (0, .ref b), (1, .ref (ad1 0)), (2, .ref (ad2 0))]) (hi : i + 6 ≤ L) (hT : cells + 7 ≤ 600000 ∧ slots + 3628 ≤ 7302250) (w : WS st) (rc : RelC st h) (rm : RelM st g) (kk : LNext p l e s m below meth c b D cI cQ (ad1 0) (ad2 0) LS cells slots) :
    W p l e room_1 s m #[Value.ref b] below meth c H locs cells slots (lw_Z below #[Value.ref b] s) (F0 m 677 LS []) := by
  have q : Sim st mX8_clearCounts mX9_clearCounts (lwx xs i 0) := sim_clear w 
  obtain ⟨r, st', w', hF, hG⟩ := q h g rc rm
  exact lw_case C0 hK hL (n := 0) (pc := 677) (T := 0) Wd0 hl (by omega) dW_677 pu_678 dW_678 dW_681 pu_682 dW_682 dW_685 (by decide) cvL8_clearCounts cvL9_clearCounts rfl rfl rfl rfl (leb rfl) (leb rfl) (by omega) hF hG (fun ad1' ad2' h' g' H' locs' e1 e2 rc' rm' W' => kk 0 (by decide) st' ad1' ad2' h' g' H' locs' w' e1 e2 rc' rm' W')
theorem lwk_melt (C0 : lw_At p s m meth c b L xs) (hK : va_K D vwCl [(cI, .int), (cQ, .object RX5)] s) (hL : L ≤ 3072) {i cells slots : Nat} {ad1 ad2 : Nat → Nat} {h g : Hp} {H : Heap} {locs : List Loc} {LS : Array Slot} {st : St}
    (Wd0 : LW s D cI cQ ad1 ad2 h g H locs) (hl : lv_has LS 4 [(3, .int (i32 (i : Int))), (0, .ref b), (1, .ref (ad1 0)), (2, .ref (ad2 0))]) (hi : i + 6 ≤ L) (hT : cells + 7 ≤ 600000 ∧ slots + 3628 ≤ 7302250) (w : WS st) (rc : RelC st h) (rm : RelM st g) (kk : LNext p l e s m below meth c b D cI cQ (ad1 0) (ad2 0) LS cells slots) :
    W p l e room_1 s m #[Value.ref b] below meth c H locs cells slots (lw_Z below #[Value.ref b] s) (F0 m 690 LS []) := by
  have q : Sim1 st mX8_melt mX9_melt (lwx xs i 1) := sim_melt w _
  obtain ⟨r, st', w', hF, hG⟩ := q h g rc rm
  exact lw_case C0 hK hL (n := 1) (pc := 690) (T := 1) Wd0 hl (by omega) dW_690 pu_691 dW_696 dW_699 pu_700 dW_705 dW_708 (by decide) cvL8_melt cvL9_melt rfl rfl rfl rfl (leb rfl) (leb rfl) (by omega) hF hG (fun ad1' ad2' h' g' H' locs' e1 e2 rc' rm' W' => kk 1 (by decide) st' ad1' ad2' h' g' H' locs' w' e1 e2 rc' rm' W')
theorem lwk_gain (C0 : lw_At p s m meth c b L xs) (hK : va_K D vwCl [(cI, .int), (cQ, .object RX5)] s) (hL : L ≤ 3072) {i cells slots : Nat} {ad1 ad2 : Nat → Nat} {h g : Hp} {H : Heap} {locs : List Loc} {LS : Array Slot} {st : St}
    (Wd0 : LW s D cI cQ ad1 ad2 h g H locs) (hl : lv_has LS 4 [(3, .int (i32 (i : Int))), (0, .ref b), (1, .ref (ad1 0)), (2, .ref (ad2 0))]) (hi : i + 6 ≤ L) (hT : cells + 7 ≤ 600000 ∧ slots + 3628 ≤ 7302250) (w : WS st) (rc : RelC st h) (rm : RelM st g) (kk : LNext p l e s m below meth c b D cI cQ (ad1 0) (ad2 0) LS cells slots) :
    W p l e room_1 s m #[Value.ref b] below meth c H locs cells slots (lw_Z below #[Value.ref b] s) (F0 m 713 LS []) := by
  have q : Sim st mX8_gain mX9_gain (lwx xs i 1) := sim_gain w _
  obtain ⟨r, st', w', hF, hG⟩ := q h g rc rm
  exact lw_case C0 hK hL (n := 1) (pc := 713) (T := 0) Wd0 hl (by omega) dW_713 pu_714 dW_719 dW_722 pu_723 dW_728 dW_731 (by decide) cvL8_gain cvL9_gain rfl rfl rfl rfl (leb rfl) (leb rfl) (by omega) hF hG (fun ad1' ad2' h' g' H' locs' e1 e2 rc' rm' W' => kk 0 (by decide) st' ad1' ad2' h' g' H' locs' w' e1 e2 rc' rm' W')
theorem lwk_weight (C0 : lw_At p s m meth c b L xs) (hK : va_K D vwCl [(cI, .int), (cQ, .object RX5)] s) (hL : L ≤ 3072) {i cells slots : Nat} {ad1 ad2 : Nat → Nat} {h g : Hp} {H : Heap} {locs : List Loc} {LS : Array Slot} {st : St}
    (Wd0 : LW s D cI cQ ad1 ad2 h g H locs) (hl : lv_has LS 4 [(3, .int (i32 (i : Int))), (0, .ref b), (1, .ref (ad1 0)), (2, .ref (ad2 0))]) (hi : i + 6 ≤ L) (hT : cells + 7 ≤ 600000 ∧ slots + 3628 ≤ 7302250) (w : WS st) (rc : RelC st h) (rm : RelM st g) (kk : LNext p l e s m below meth c b D cI cQ (ad1 0) (ad2 0) LS cells slots) :
    W p l e room_1 s m #[Value.ref b] below meth c H locs cells slots (lw_Z below #[Value.ref b] s) (F0 m 736 LS []) := by
  have q : Sim st mX8_weight mX9_weight (lwx xs i 1) := sim_weight w _
  obtain ⟨r, st', w', hF, hG⟩ := q h g rc rm
  exact lw_case C0 hK hL (n := 1) (pc := 736) (T := 0) Wd0 hl (by omega) dW_736 pu_737 dW_742 dW_745 pu_746 dW_751 dW_754 (by decide) cvL8_weight cvL9_weight rfl rfl rfl rfl (leb rfl) (leb rfl) (by omega) hF hG (fun ad1' ad2' h' g' H' locs' e1 e2 rc' rm' W' => kk 0 (by decide) st' ad1' ad2' h' g' H' locs' w' e1 e2 rc' rm' W')
theorem lwk_ahead (C0 : lw_At p s m meth c b L xs) (hK : va_K D vwCl [(cI, .int), (cQ, .object RX5)] s) (hL : L ≤ 3072) {i cells slots : Nat} {ad1 ad2 : Nat → Nat} {h g : Hp} {H : Heap} {locs : List Loc} {LS : Array Slot} {st : St}
    (Wd0 : LW s D cI cQ ad1 ad2 h g H locs) (hl : lv_has LS 4 [(3, .int (i32 (i : Int))), (0, .ref b), (1, .ref (ad1 0)), (2, .ref (ad2 0))]) (hi : i + 6 ≤ L) (hT : cells + 7 ≤ 600000 ∧ slots + 3628 ≤ 7302250) (w : WS st) (rc : RelC st h) (rm : RelM st g) (kk : LNext p l e s m below meth c b D cI cQ (ad1 0) (ad2 0) LS cells slots) :
    W p l e room_1 s m #[Value.ref b] below meth c H locs cells slots (lw_Z below #[Value.ref b] s) (F0 m 759 LS []) := by
  have q : Sim1 st mX8_ahead mX9_ahead (lwx xs i 1) := sim_ahead w _
  obtain ⟨r, st', w', hF, hG⟩ := q h g rc rm
  exact lw_case C0 hK hL (n := 1) (pc := 759) (T := 1) Wd0 hl (by omega) dW_759 pu_760 dW_765 dW_768 pu_769 dW_774 dW_777 (by decide) cvL8_ahead cvL9_ahead rfl rfl rfl rfl (leb rfl) (leb rfl) (by omega) hF hG (fun ad1' ad2' h' g' H' locs' e1 e2 rc' rm' W' => kk 1 (by decide) st' ad1' ad2' h' g' H' locs' w' e1 e2 rc' rm' W')
theorem lwk_drop (C0 : lw_At p s m meth c b L xs) (hK : va_K D vwCl [(cI, .int), (cQ, .object RX5)] s) (hL : L ≤ 3072) {i cells slots : Nat} {ad1 ad2 : Nat → Nat} {h g : Hp} {H : Heap} {locs : List Loc} {LS : Array Slot} {st : St}
    (Wd0 : LW s D cI cQ ad1 ad2 h g H locs) (hl : lv_has LS 4 [(3, .int (i32 (i : Int))), (0, .ref b), (1, .ref (ad1 0)), (2, .ref (ad2 0))]) (hi : i + 6 ≤ L) (hT : cells + 7 ≤ 600000 ∧ slots + 3628 ≤ 7302250) (w : WS st) (rc : RelC st h) (rm : RelM st g) (kk : LNext p l e s m below meth c b D cI cQ (ad1 0) (ad2 0) LS cells slots) :
    W p l e room_1 s m #[Value.ref b] below meth c H locs cells slots (lw_Z below #[Value.ref b] s) (F0 m 782 LS []) := by
  have q : Sim1 st mX8_drop mX9_drop (lwx xs i 0) := sim_drop w 
  obtain ⟨r, st', w', hF, hG⟩ := q h g rc rm
  exact lw_case C0 hK hL (n := 0) (pc := 782) (T := 1) Wd0 hl (by omega) dW_782 pu_783 dW_783 dW_786 pu_787 dW_787 dW_790 (by decide) cvL8_drop cvL9_drop rfl rfl rfl rfl (leb rfl) (leb rfl) (by omega) hF hG (fun ad1' ad2' h' g' H' locs' e1 e2 rc' rm' W' => kk 1 (by decide) st' ad1' ad2' h' g' H' locs' w' e1 e2 rc' rm' W')
theorem lwk_undo (C0 : lw_At p s m meth c b L xs) (hK : va_K D vwCl [(cI, .int), (cQ, .object RX5)] s) (hL : L ≤ 3072) {i cells slots : Nat} {ad1 ad2 : Nat → Nat} {h g : Hp} {H : Heap} {locs : List Loc} {LS : Array Slot} {st : St}
    (Wd0 : LW s D cI cQ ad1 ad2 h g H locs) (hl : lv_has LS 4 [(3, .int (i32 (i : Int))), (0, .ref b), (1, .ref (ad1 0)), (2, .ref (ad2 0))]) (hi : i + 6 ≤ L) (hT : cells + 7 ≤ 600000 ∧ slots + 3628 ≤ 7302250) (w : WS st) (rc : RelC st h) (rm : RelM st g) (kk : LNext p l e s m below meth c b D cI cQ (ad1 0) (ad2 0) LS cells slots) :
    W p l e room_1 s m #[Value.ref b] below meth c H locs cells slots (lw_Z below #[Value.ref b] s) (F0 m 795 LS []) := by
  have q : Sim st mX8_undo mX9_undo (lwx xs i 0) := sim_undo w 
  obtain ⟨r, st', w', hF, hG⟩ := q h g rc rm
  exact lw_case C0 hK hL (n := 0) (pc := 795) (T := 0) Wd0 hl (by omega) dW_795 pu_796 dW_796 dW_799 pu_800 dW_800 dW_803 (by decide) cvL8_undo cvL9_undo rfl rfl rfl rfl (leb rfl) (leb rfl) (by omega) hF hG (fun ad1' ad2' h' g' H' locs' e1 e2 rc' rm' W' => kk 0 (by decide) st' ad1' ad2' h' g' H' locs' w' e1 e2 rc' rm' W')
theorem lwk_layout (C0 : lw_At p s m meth c b L xs) (hK : va_K D vwCl [(cI, .int), (cQ, .object RX5)] s) (hL : L ≤ 3072) {i cells slots : Nat} {ad1 ad2 : Nat → Nat} {h g : Hp} {H : Heap} {locs : List Loc} {LS : Array Slot} {st : St}
    (Wd0 : LW s D cI cQ ad1 ad2 h g H locs) (hl : lv_has LS 4 [(3, .int (i32 (i : Int))), (0, .ref b), (1, .ref (ad1 0)), (2, .ref (ad2 0))]) (hi : i + 6 ≤ L) (hT : cells + 7 ≤ 600000 ∧ slots + 3628 ≤ 7302250) (w : WS st) (rc : RelC st h) (rm : RelM st g) (kk : LNext p l e s m below meth c b D cI cQ (ad1 0) (ad2 0) LS cells slots) :
    W p l e room_1 s m #[Value.ref b] below meth c H locs cells slots (lw_Z below #[Value.ref b] s) (F0 m 808 LS []) := by
  have q : Sim st mX8_layout mX9_layout (lwx xs i 2) := sim_layout w _ _
  obtain ⟨r, st', w', hF, hG⟩ := q h g rc rm
  exact lw_case C0 hK hL (n := 2) (pc := 808) (T := 0) Wd0 hl (by omega) dW_808 pu_809 dW_819 dW_822 pu_823 dW_833 dW_836 (by decide) cvL8_layout cvL9_layout rfl rfl rfl rfl (leb rfl) (leb rfl) (by omega) hF hG (fun ad1' ad2' h' g' H' locs' e1 e2 rc' rm' W' => kk 0 (by decide) st' ad1' ad2' h' g' H' locs' w' e1 e2 rc' rm' W')
theorem lwk_laid (C0 : lw_At p s m meth c b L xs) (hK : va_K D vwCl [(cI, .int), (cQ, .object RX5)] s) (hL : L ≤ 3072) {i cells slots : Nat} {ad1 ad2 : Nat → Nat} {h g : Hp} {H : Heap} {locs : List Loc} {LS : Array Slot} {st : St}
    (Wd0 : LW s D cI cQ ad1 ad2 h g H locs) (hl : lv_has LS 4 [(3, .int (i32 (i : Int))), (0, .ref b), (1, .ref (ad1 0)), (2, .ref (ad2 0))]) (hi : i + 6 ≤ L) (hT : cells + 7 ≤ 600000 ∧ slots + 3628 ≤ 7302250) (w : WS st) (rc : RelC st h) (rm : RelM st g) (kk : LNext p l e s m below meth c b D cI cQ (ad1 0) (ad2 0) LS cells slots) :
    W p l e room_1 s m #[Value.ref b] below meth c H locs cells slots (lw_Z below #[Value.ref b] s) (F0 m 841 LS []) := by
  have q : Sim st mX8_laid mX9_laid (lwx xs i 1) := sim_laid w _ (lwx_cn (xs := xs) (i := i) (n := 1) (pI (xs (i + 1 + 0)).toInt) List.mem_cons_self)
  obtain ⟨r, st', w', hF, hG⟩ := q h g rc rm
  exact lw_case C0 hK hL (n := 1) (pc := 841) (T := 0) Wd0 hl (by omega) dW_841 pu_842 dW_847 dW_850 pu_851 dW_856 dW_859 (by decide) cvL8_laid cvL9_laid rfl rfl rfl rfl (leb rfl) (leb rfl) (by omega) hF hG (fun ad1' ad2' h' g' H' locs' e1 e2 rc' rm' W' => kk 0 (by decide) st' ad1' ad2' h' g' H' locs' w' e1 e2 rc' rm' W')
theorem lwk_next (C0 : lw_At p s m meth c b L xs) (hK : va_K D vwCl [(cI, .int), (cQ, .object RX5)] s) (hL : L ≤ 3072) {i cells slots : Nat} {ad1 ad2 : Nat → Nat} {h g : Hp} {H : Heap} {locs : List Loc} {LS : Array Slot} {st : St}
    (Wd0 : LW s D cI cQ ad1 ad2 h g H locs) (hl : lv_has LS 4 [(3, .int (i32 (i : Int))), (0, .ref b), (1, .ref (ad1 0)), (2, .ref (ad2 0))]) (hi : i + 6 ≤ L) (hT : cells + 7 ≤ 600000 ∧ slots + 3628 ≤ 7302250) (w : WS st) (rc : RelC st h) (rm : RelM st g) (kk : LNext p l e s m below meth c b D cI cQ (ad1 0) (ad2 0) LS cells slots) :
    W p l e room_1 s m #[Value.ref b] below meth c H locs cells slots (lw_Z below #[Value.ref b] s) (F0 m 864 LS []) := by
  have q : Sim st mX8_next mX9_next (lwx xs i 2) := sim_next w _ _
  obtain ⟨r, st', w', hF, hG⟩ := q h g rc rm
  exact lw_case C0 hK hL (n := 2) (pc := 864) (T := 0) Wd0 hl (by omega) dW_864 pu_865 dW_875 dW_878 pu_879 dW_889 dW_892 (by decide) cvL8_next cvL9_next rfl rfl rfl rfl (leb rfl) (leb rfl) (by omega) hF hG (fun ad1' ad2' h' g' H' locs' e1 e2 rc' rm' W' => kk 0 (by decide) st' ad1' ad2' h' g' H' locs' w' e1 e2 rc' rm' W')
theorem lwk_count (C0 : lw_At p s m meth c b L xs) (hK : va_K D vwCl [(cI, .int), (cQ, .object RX5)] s) (hL : L ≤ 3072) {i cells slots : Nat} {ad1 ad2 : Nat → Nat} {h g : Hp} {H : Heap} {locs : List Loc} {LS : Array Slot} {st : St}
    (Wd0 : LW s D cI cQ ad1 ad2 h g H locs) (hl : lv_has LS 4 [(3, .int (i32 (i : Int))), (0, .ref b), (1, .ref (ad1 0)), (2, .ref (ad2 0))]) (hi : i + 6 ≤ L) (hT : cells + 7 ≤ 600000 ∧ slots + 3628 ≤ 7302250) (w : WS st) (rc : RelC st h) (rm : RelM st g) (kk : LNext p l e s m below meth c b D cI cQ (ad1 0) (ad2 0) LS cells slots) :
    W p l e room_1 s m #[Value.ref b] below meth c H locs cells slots (lw_Z below #[Value.ref b] s) (F0 m 897 LS []) := by
  have q : Sim st mX8_count mX9_count (lwx xs i 1) := sim_count w _
  obtain ⟨r, st', w', hF, hG⟩ := q h g rc rm
  exact lw_case C0 hK hL (n := 1) (pc := 897) (T := 0) Wd0 hl (by omega) dW_897 pu_898 dW_903 dW_906 pu_907 dW_912 dW_915 (by decide) cvL8_count cvL9_count rfl rfl rfl rfl (leb rfl) (leb rfl) (by omega) hF hG (fun ad1' ad2' h' g' H' locs' e1 e2 rc' rm' W' => kk 0 (by decide) st' ad1' ad2' h' g' H' locs' w' e1 e2 rc' rm' W')
theorem law_loop (C0 : lw_At p s m meth c b L xs) (hK : va_K D vwCl [(cI, .int), (cQ, .object RX5)] s) (hL : L ≤ 3072) : ∀ (n t : Nat), 513 ≤ t + n → t ≤ 512 → ∀ (st : St) (ad1 ad2 : Nat → Nat) (h g : Hp) (H : Heap) (locs : List Loc) (LS : Array Slot), WS st → RelC st h → RelM st g → LW s D cI cQ ad1 ad2 h g H locs → lv_has LS 4 [(3, .int (i32 ((6 * t : Nat) : Int))), (0, .ref b), (1, .ref (ad1 0)), (2, .ref (ad2 0))] →
    W p l e room_1 s m #[Value.ref b] below meth c H locs (74 + 7 * t) (71890 + 3628 * t) (lw_Z below #[Value.ref b] s) (F0 m 18 LS []) := by
  obtain ⟨hx, hb, hrt, hml, hown, hts, hX, hbl, hlocks, hgv⟩ := id C0
  intro n
  induction n with
  | zero =>
    intro t h1 h2
    exact absurd h1 (by omega)
  | succ n ih =>
    intro t h1 h2 st ad1 ad2 h g H locs LS w rc rm Wd0 hl
    have hS : va_S (lwA s) s.heap H locs := Wd0.2.2.2.2.1
    refine lv_iload_n hx hb dW_18 rfl (lv_at hl 0 rfl) ?_
    refine lv_aload_n hx hb dW_19 rfl (lv_at hl 1 rfl) ?_
    refine va_slen hx hb hX hbl (Nat.not_le.mpr hbl) hS dW_20 ?_
    refine lv_bipush (v := i32 6) hx hb dW_21 rfl ?_
    refine lv_isub hx hb dW_23 ?_
    have e0 : Int32.ofNat L - i32 6 = i32 ((L : Int) - 6) := by
      rw [show Int32.ofNat L = i32 (L : Int) from (Int32.ofInt_eq_ofNat).symm, ← Int32.ofInt_sub]
    rw [e0]
    refine lv_icmp_gt (tgt := 926) hx hb dW_24 (by decide) (fun c1 => ?_) (fun c1 => ?_)
    · refine lv_iconst (v := 1) hx hb dW_926 rfl ?_
      refine va_forget (fun q hq => hS.2.2 q hq) ?_
      refine W.widen (k := 600000) (n := 7302250) (by omega) (by omega) ?_
      exact lw_ret hx hb hrt hlocks dW_927
    · have hlt : 6 * t + 6 ≤ L := by
        rw [i32_lt (by unfold inR; omega) (by unfold inR; omega)] at c1
        omega
      have hT : 74 + 7 * t + 7 ≤ 600000 ∧ 71890 + 3628 * t + 3628 ≤ 7302250 := by omega
      refine lv_aload_n hx hb dW_27 rfl (lv_at hl 1 rfl) ?_
      refine lv_iload_n hx hb dW_28 rfl (lv_at hl 0 rfl) ?_
      refine va_sld hx hb hX hbl (Nat.not_le.mpr hbl) hS (i32_in (by omega) (by omega)) dW_29 ?_
      rw [i32_k (by omega)]
      refine lv_bipush (v := i32 31) hx hb dW_30 rfl ?_
      refine lv_iand hx hb dW_32 ?_
      refine lv_topi (fun v _ => ?_)
      have kk : LNext p l e s m below meth c b D cI cQ (ad1 0) (ad2 0) LS (74 + 7 * t) (71890 + 3628 * t) := by
        intro T hT1 st' ad1' ad2' h' g' H' locs' w' e1 e2 rc' rm' Wd'
        refine W.widen (k := 74 + 7 * (t + 1)) (n := 71890 + 3628 * (t + 1)) (by omega) (by omega) ?_
        refine lv_iinc (v := i32 ((6 * (t + 1) : Nat) : Int)) (lv' := [(3, .int (i32 ((6 * (t + 1) : Nat) : Int))), (0, .ref b), (1, .ref (ad1 0)), (2, .ref (ad2 0))]) hx hb dW_920 hl (k := 0) rfl ?_ (by decide) rfl (fun LS' hl' => ?_)
        · rw [← Int32.ofInt_add, show ((6 * t : Nat) : Int) + 6 = ((6 * (t + 1) : Nat) : Int) by omega]
        · refine lv_goto (tgt := 18) hx hb dW_923 (by decide) ?_
          exact ih (t + 1) (by omega) (by omega) st' ad1' ad2' h' g' H' locs' LS' w' rc' rm' Wd' (by rw [e1, e2]; exact hl')
      by_cases hc : v.toInt < 0 ∨ 25 < v.toInt
      · refine lv_tableOut (tgt := 920) hx hb dW_33 hc (by decide) ?_
        exact kk 0 (by decide) st ad1 ad2 h g H locs w rfl rfl rc rm Wd0
      rcases (show v.toInt = 0 ∨ v.toInt = 1 ∨ v.toInt = 2 ∨ v.toInt = 3 ∨ v.toInt = 4 ∨ v.toInt = 5 ∨ v.toInt = 6 ∨ v.toInt = 7 ∨ v.toInt = 8 ∨ v.toInt = 9 ∨ v.toInt = 10 ∨ v.toInt = 11 ∨ v.toInt = 12 ∨ v.toInt = 13 ∨ v.toInt = 14 ∨ v.toInt = 15 ∨ v.toInt = 16 ∨ v.toInt = 17 ∨ v.toInt = 18 ∨ v.toInt = 19 ∨ v.toInt = 20 ∨ v.toInt = 21 ∨ v.toInt = 22 ∨ v.toInt = 23 ∨ v.toInt = 24 ∨ v.toInt = 25 from by omega) with q | q | q | q | q | q | q | q | q | q | q | q | q | q | q | q | q | q | q | q | q | q | q | q | q | q
      · refine lv_tableIn (off := 119) (tgt := 152) hx hb dW_33 (by rw [q]; decide) (by rw [q]; decide) (by rw [q]; rfl) (by decide) ?_
        exact lwk_number C0 hK hL Wd0 hl hlt hT w rc rm kk
      · refine lv_tableIn (off := 142) (tgt := 175) hx hb dW_33 (by rw [q]; decide) (by rw [q]; decide) (by rw [q]; rfl) (by decide) ?_
        exact lwk_name C0 hK hL Wd0 hl hlt hT w rc rm kk
      · refine lv_tableIn (off := 165) (tgt := 198) hx hb dW_33 (by rw [q]; decide) (by rw [q]; decide) (by rw [q]; rfl) (by decide) ?_
        exact lwk_act C0 hK hL Wd0 hl hlt hT w rc rm kk
      · refine lv_tableIn (off := 208) (tgt := 241) hx hb dW_33 (by rw [q]; decide) (by rw [q]; decide) (by rw [q]; rfl) (by decide) ?_
        exact lwk_join C0 hK hL Wd0 hl hlt hT w rc rm kk
      · refine lv_tableIn (off := 261) (tgt := 294) hx hb dW_33 (by rw [q]; decide) (by rw [q]; decide) (by rw [q]; rfl) (by decide) ?_
        exact lwk_set C0 hK hL Wd0 hl hlt hT w rc rm kk
      · refine lv_tableIn (off := 294) (tgt := 327) hx hb dW_33 (by rw [q]; decide) (by rw [q]; decide) (by rw [q]; rfl) (by decide) ?_
        exact lwk_call C0 hK hL Wd0 hl hlt hT w rc rm kk
      · refine lv_tableIn (off := 347) (tgt := 380) hx hb dW_33 (by rw [q]; decide) (by rw [q]; decide) (by rw [q]; rfl) (by decide) ?_
        exact lwk_routine C0 hK hL Wd0 hl hlt hT w rc rm kk
      · refine lv_tableIn (off := 370) (tgt := 403) hx hb dW_33 (by rw [q]; decide) (by rw [q]; decide) (by rw [q]; rfl) (by decide) ?_
        exact lwk_body C0 hK hL Wd0 hl hlt hT w rc rm kk
      · refine lv_tableIn (off := 403) (tgt := 436) hx hb dW_33 (by rw [q]; decide) (by rw [q]; decide) (by rw [q]; rfl) (by decide) ?_
        exact lwk_told C0 hK hL Wd0 hl hlt hT w rc rm kk
      · refine lv_tableIn (off := 436) (tgt := 469) hx hb dW_33 (by rw [q]; decide) (by rw [q]; decide) (by rw [q]; rfl) (by decide) ?_
        exact lwk_about C0 hK hL Wd0 hl hlt hT w rc rm kk
      · refine lv_tableIn (off := 469) (tgt := 502) hx hb dW_33 (by rw [q]; decide) (by rw [q]; decide) (by rw [q]; rfl) (by decide) ?_
        exact lwk_same C0 hK hL Wd0 hl hlt hT w rc rm kk
      · refine lv_tableIn (off := 502) (tgt := 535) hx hb dW_33 (by rw [q]; decide) (by rw [q]; decide) (by rw [q]; rfl) (by decide) ?_
        exact lwk_run C0 hK hL Wd0 hl hlt hT w rc rm kk
      · refine lv_tableIn (off := 565) (tgt := 598) hx hb dW_33 (by rw [q]; decide) (by rw [q]; decide) (by rw [q]; rfl) (by decide) ?_
        exact lwk_ran C0 hK hL Wd0 hl hlt hT w rc rm kk
      · refine lv_tableIn (off := 588) (tgt := 621) hx hb dW_33 (by rw [q]; decide) (by rw [q]; decide) (by rw [q]; rfl) (by decide) ?_
        exact lwk_row C0 hK hL Wd0 hl hlt hT w rc rm kk
      · refine lv_tableIn (off := 611) (tgt := 644) hx hb dW_33 (by rw [q]; decide) (by rw [q]; decide) (by rw [q]; rfl) (by decide) ?_
        exact lwk_lay C0 hK hL Wd0 hl hlt hT w rc rm kk
      · refine lv_tableIn (off := 644) (tgt := 677) hx hb dW_33 (by rw [q]; decide) (by rw [q]; decide) (by rw [q]; rfl) (by decide) ?_
        exact lwk_clearCounts C0 hK hL Wd0 hl hlt hT w rc rm kk
      · refine lv_tableIn (off := 657) (tgt := 690) hx hb dW_33 (by rw [q]; decide) (by rw [q]; decide) (by rw [q]; rfl) (by decide) ?_
        exact lwk_melt C0 hK hL Wd0 hl hlt hT w rc rm kk
      · refine lv_tableIn (off := 680) (tgt := 713) hx hb dW_33 (by rw [q]; decide) (by rw [q]; decide) (by rw [q]; rfl) (by decide) ?_
        exact lwk_gain C0 hK hL Wd0 hl hlt hT w rc rm kk
      · refine lv_tableIn (off := 703) (tgt := 736) hx hb dW_33 (by rw [q]; decide) (by rw [q]; decide) (by rw [q]; rfl) (by decide) ?_
        exact lwk_weight C0 hK hL Wd0 hl hlt hT w rc rm kk
      · refine lv_tableIn (off := 726) (tgt := 759) hx hb dW_33 (by rw [q]; decide) (by rw [q]; decide) (by rw [q]; rfl) (by decide) ?_
        exact lwk_ahead C0 hK hL Wd0 hl hlt hT w rc rm kk
      · refine lv_tableIn (off := 749) (tgt := 782) hx hb dW_33 (by rw [q]; decide) (by rw [q]; decide) (by rw [q]; rfl) (by decide) ?_
        exact lwk_drop C0 hK hL Wd0 hl hlt hT w rc rm kk
      · refine lv_tableIn (off := 762) (tgt := 795) hx hb dW_33 (by rw [q]; decide) (by rw [q]; decide) (by rw [q]; rfl) (by decide) ?_
        exact lwk_undo C0 hK hL Wd0 hl hlt hT w rc rm kk
      · refine lv_tableIn (off := 775) (tgt := 808) hx hb dW_33 (by rw [q]; decide) (by rw [q]; decide) (by rw [q]; rfl) (by decide) ?_
        exact lwk_layout C0 hK hL Wd0 hl hlt hT w rc rm kk
      · refine lv_tableIn (off := 808) (tgt := 841) hx hb dW_33 (by rw [q]; decide) (by rw [q]; decide) (by rw [q]; rfl) (by decide) ?_
        exact lwk_laid C0 hK hL Wd0 hl hlt hT w rc rm kk
      · refine lv_tableIn (off := 831) (tgt := 864) hx hb dW_33 (by rw [q]; decide) (by rw [q]; decide) (by rw [q]; rfl) (by decide) ?_
        exact lwk_next C0 hK hL Wd0 hl hlt hT w rc rm kk
      · refine lv_tableIn (off := 864) (tgt := 897) hx hb dW_33 (by rw [q]; decide) (by rw [q]; decide) (by rw [q]; rfl) (by decide) ?_
        exact lwk_count C0 hK hL Wd0 hl hlt hT w rc rm kk
end LWL
