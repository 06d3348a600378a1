set_option maxHeartbeats 4000000 in
set_option maxRecDepth 100000 in
theorem law_c0 {p : Program} {l : Launch} {e : Env} {s : State} {m : MethodId} {below : List Frame} {meth : Method} {c : Code} {b L : Nat} {xs : Nat → Int32} {D : va_G} {cA : Nat → ClassId} {ad : Nat → Nat} {H : Heap} {locs : List Loc} {k n : Nat} {Q : State → Prop} {ls : Array Slot} {Inv : HP → HP → Prop} {hc hm : HP} {i : Int32} (hX : LX p s m c b L xs D cA ad) (hkn : k + 0 ≤ room_1.cells ∧ n + 0 ≤ room_1.slots) (hI : Inv hc hm) (hin : ∀ j : Int32, 0 ≤ j.toInt → j.toInt < 6 → vp_in (i + j) L) (hP : va_P D CL (xW cA ad (gC, SH, emb hc)) H) (hP2 : va_P D CL (xW cA ad (gM, SH, emb hm)) H) (hS : va_S (lA s) s.heap H locs) (hl : lv_has ls 4 (lL b ad i)) (kk : ∀ (hc1 hm1 : HP) (H1 : Heap) (locs1 : List Loc), Inv hc1 hm1 → va_P D CL (xW cA ad (gC, SH, emb hc1)) H1 → va_P D CL (xW cA ad (gM, SH, emb hm1)) H1 → va_S (lA s) s.heap H1 locs1 → W p l e room_1 s m #[Value.ref b] below meth c H1 locs1 k n Q (F0 m 800 ls [])) (hop : (∀ x0 : Int32, OpI (P_X8_letter x0) (P_X9_letter x0) Inv)) : W p l e room_1 s m #[Value.ref b] below meth c H locs k n Q (F0 m 140 ls []) := by
  obtain ⟨hx, hb, -⟩ := id hX
  refine lv_aload_n hx hb dL_law_140 rfl (lv_at hl 1 rfl) ?_
  refine l_arg (kx := 1) hX hS hl dL_law_141 dL_law_142 dL_law_143 dL_law_144 dL_law_145 ic_1 (hin 1 (by decide) (by decide)) ?_
  refine l_call (q := 0) (st := []) (avs := [.int (xs (i + 1).toNatClampNeg)]) hX (fun _ h => inC h) (fun _ h => inM h) disCM dL_law_146 lk_13 mi_X8_letter rfl (t_X8_letter (hop (xs (i + 1).toNatClampNeg) hc hm hI)) ty_0 (Nat.le_of_ble_eq_true rfl) ⟨rfl, rfl⟩ ⟨Nat.le_of_ble_eq_true rfl, Nat.le_of_ble_eq_true rfl⟩ hP hP2 hS hl.1 hkn (fun r a1 H1 locs1 hp hP hP2 hS => ?_)
  obtain ⟨hc1, v1, rfl, rfl, hp⟩ := hp
  refine lv_aload_n hx hb dL_law_149 rfl (lv_at hl 2 rfl) ?_
  refine l_arg (kx := 1) hX hS hl dL_law_150 dL_law_151 dL_law_152 dL_law_153 dL_law_154 ic_1 (hin 1 (by decide) (by decide)) ?_
  refine l_call (q := 78) (st := [.int v1]) (avs := [.int (xs (i + 1).toNatClampNeg)]) hX (fun _ h => inM h) (fun _ h => inC h) disMC dL_law_155 lk_17 mi_X9_letter rfl (t_X9_letter hp) ty_78 (Nat.le_of_ble_eq_true rfl) ⟨rfl, rfl⟩ ⟨Nat.le_of_ble_eq_true rfl, Nat.le_of_ble_eq_true rfl⟩ hP2 hP hS hl.1 hkn (fun r a1 H2 locs2 hp hP2 hP hS => ?_)
  obtain ⟨hm1, v2, rfl, rfl, rfl, hI⟩ := hp
  refine lv_icmp_eq (tgt := 800) hx hb dL_law_158 (by decide) (fun _ => kk hc1 hm1 H2 locs2 hI hP hP2 hS) (fun h => absurd rfl h)
set_option maxHeartbeats 4000000 in
set_option maxRecDepth 100000 in
theorem law_c1 {p : Program} {l : Launch} {e : Env} {s : State} {m : MethodId} {below : List Frame} {meth : Method} {c : Code} {b L : Nat} {xs : Nat → Int32} {D : va_G} {cA : Nat → ClassId} {ad : Nat → Nat} {H : Heap} {locs : List Loc} {k n : Nat} {Q : State → Prop} {ls : Array Slot} {Inv : HP → HP → Prop} {hc hm : HP} {i : Int32} (hX : LX p s m c b L xs D cA ad) (hkn : k + 0 ≤ room_1.cells ∧ n + 0 ≤ room_1.slots) (hI : Inv hc hm) (hin : ∀ j : Int32, 0 ≤ j.toInt → j.toInt < 6 → vp_in (i + j) L) (hP : va_P D CL (xW cA ad (gC, SH, emb hc)) H) (hP2 : va_P D CL (xW cA ad (gM, SH, emb hm)) H) (hS : va_S (lA s) s.heap H locs) (hl : lv_has ls 4 (lL b ad i)) (kk : ∀ (hc1 hm1 : HP) (H1 : Heap) (locs1 : List Loc), Inv hc1 hm1 → va_P D CL (xW cA ad (gC, SH, emb hc1)) H1 → va_P D CL (xW cA ad (gM, SH, emb hm1)) H1 → va_S (lA s) s.heap H1 locs1 → W p l e room_1 s m #[Value.ref b] below meth c H1 locs1 k n Q (F0 m 800 ls [])) (hop : (OpI (P_X8_blank ) (P_X9_blank ) Inv)) : W p l e room_1 s m #[Value.ref b] below meth c H locs k n Q (F0 m 163 ls []) := by
  obtain ⟨hx, hb, -⟩ := id hX
  refine lv_aload_n hx hb dL_law_163 rfl (lv_at hl 1 rfl) ?_
  refine l_call (q := 0) (st := []) (avs := []) hX (fun _ h => inC h) (fun _ h => inM h) disCM dL_law_164 lk_18 mi_X8_blank rfl (t_X8_blank (hop hc hm hI)) ty_0 (Nat.le_of_ble_eq_true rfl) ⟨rfl, rfl⟩ ⟨Nat.le_of_ble_eq_true rfl, Nat.le_of_ble_eq_true rfl⟩ hP hP2 hS hl.1 hkn (fun r a1 H1 locs1 hp hP hP2 hS => ?_)
  obtain ⟨hc1, v1, rfl, rfl, hp⟩ := hp
  refine lv_aload_n hx hb dL_law_167 rfl (lv_at hl 2 rfl) ?_
  refine l_call (q := 78) (st := [.int v1]) (avs := []) hX (fun _ h => inM h) (fun _ h => inC h) disMC dL_law_168 lk_22 mi_X9_blank rfl (t_X9_blank hp) ty_78 (Nat.le_of_ble_eq_true rfl) ⟨rfl, rfl⟩ ⟨Nat.le_of_ble_eq_true rfl, Nat.le_of_ble_eq_true rfl⟩ hP2 hP hS hl.1 hkn (fun r a1 H2 locs2 hp hP2 hP hS => ?_)
  obtain ⟨hm1, v2, rfl, rfl, rfl, hI⟩ := hp
  refine lv_icmp_eq (tgt := 800) hx hb dL_law_171 (by decide) (fun _ => kk hc1 hm1 H2 locs2 hI hP hP2 hS) (fun h => absurd rfl h)
set_option maxHeartbeats 4000000 in
set_option maxRecDepth 100000 in
theorem law_c2 {p : Program} {l : Launch} {e : Env} {s : State} {m : MethodId} {below : List Frame} {meth : Method} {c : Code} {b L : Nat} {xs : Nat → Int32} {D : va_G} {cA : Nat → ClassId} {ad : Nat → Nat} {H : Heap} {locs : List Loc} {k n : Nat} {Q : State → Prop} {ls : Array Slot} {Inv : HP → HP → Prop} {hc hm : HP} {i : Int32} (hX : LX p s m c b L xs D cA ad) (hkn : k + 0 ≤ room_1.cells ∧ n + 0 ≤ room_1.slots) (hI : Inv hc hm) (hin : ∀ j : Int32, 0 ≤ j.toInt → j.toInt < 6 → vp_in (i + j) L) (hP : va_P D CL (xW cA ad (gC, SH, emb hc)) H) (hP2 : va_P D CL (xW cA ad (gM, SH, emb hm)) H) (hS : va_S (lA s) s.heap H locs) (hl : lv_has ls 4 (lL b ad i)) (kk : ∀ (hc1 hm1 : HP) (H1 : Heap) (locs1 : List Loc), Inv hc1 hm1 → va_P D CL (xW cA ad (gC, SH, emb hc1)) H1 → va_P D CL (xW cA ad (gM, SH, emb hm1)) H1 → va_S (lA s) s.heap H1 locs1 → W p l e room_1 s m #[Value.ref b] below meth c H1 locs1 k n Q (F0 m 800 ls [])) (hop : (OpI (P_X8_fault ) (P_X9_fault ) Inv)) : W p l e room_1 s m #[Value.ref b] below meth c H locs k n Q (F0 m 176 ls []) := by
  obtain ⟨hx, hb, -⟩ := id hX
  refine lv_aload_n hx hb dL_law_176 rfl (lv_at hl 1 rfl) ?_
  refine l_call (q := 0) (st := []) (avs := []) hX (fun _ h => inC h) (fun _ h => inM h) disCM dL_law_177 lk_23 mi_X8_fault rfl (t_X8_fault (hop hc hm hI)) ty_0 (Nat.le_of_ble_eq_true rfl) ⟨rfl, rfl⟩ ⟨Nat.le_of_ble_eq_true rfl, Nat.le_of_ble_eq_true rfl⟩ hP hP2 hS hl.1 hkn (fun r a1 H1 locs1 hp hP hP2 hS => ?_)
  obtain ⟨hc1, v1, rfl, rfl, hp⟩ := hp
  refine lv_aload_n hx hb dL_law_180 rfl (lv_at hl 2 rfl) ?_
  refine l_call (q := 78) (st := [.int v1]) (avs := []) hX (fun _ h => inM h) (fun _ h => inC h) disMC dL_law_181 lk_26 mi_X9_fault rfl (t_X9_fault hp) ty_78 (Nat.le_of_ble_eq_true rfl) ⟨rfl, rfl⟩ ⟨Nat.le_of_ble_eq_true rfl, Nat.le_of_ble_eq_true rfl⟩ hP2 hP hS hl.1 hkn (fun r a1 H2 locs2 hp hP2 hP hS => ?_)
  obtain ⟨hm1, v2, rfl, rfl, rfl, hI⟩ := hp
  refine lv_icmp_eq (tgt := 800) hx hb dL_law_184 (by decide) (fun _ => kk hc1 hm1 H2 locs2 hI hP hP2 hS) (fun h => absurd rfl h)
set_option maxHeartbeats 4000000 in
set_option maxRecDepth 100000 in
theorem law_c3 {p : Program} {l : Launch} {e : Env} {s : State} {m : MethodId} {below : List Frame} {meth : Method} {c : Code} {b L : Nat} {xs : Nat → Int32} {D : va_G} {cA : Nat → ClassId} {ad : Nat → Nat} {H : Heap} {locs : List Loc} {k n : Nat} {Q : State → Prop} {ls : Array Slot} {Inv : HP → HP → Prop} {hc hm : HP} {i : Int32} (hX : LX p s m c b L xs D cA ad) (hkn : k + 0 ≤ room_1.cells ∧ n + 0 ≤ room_1.slots) (hI : Inv hc hm) (hin : ∀ j : Int32, 0 ≤ j.toInt → j.toInt < 6 → vp_in (i + j) L) (hP : va_P D CL (xW cA ad (gC, SH, emb hc)) H) (hP2 : va_P D CL (xW cA ad (gM, SH, emb hm)) H) (hS : va_S (lA s) s.heap H locs) (hl : lv_has ls 4 (lL b ad i)) (kk : ∀ (hc1 hm1 : HP) (H1 : Heap) (locs1 : List Loc), Inv hc1 hm1 → va_P D CL (xW cA ad (gC, SH, emb hc1)) H1 → va_P D CL (xW cA ad (gM, SH, emb hm1)) H1 → va_S (lA s) s.heap H1 locs1 → W p l e room_1 s m #[Value.ref b] below meth c H1 locs1 k n Q (F0 m 800 ls [])) (hop : (OpI (P_X8_air ) (P_X9_air ) Inv)) : W p l e room_1 s m #[Value.ref b] below meth c H locs k n Q (F0 m 189 ls []) := by
  obtain ⟨hx, hb, -⟩ := id hX
  refine lv_aload_n hx hb dL_law_189 rfl (lv_at hl 1 rfl) ?_
  refine l_call (q := 0) (st := []) (avs := []) hX (fun _ h => inC h) (fun _ h => inM h) disCM dL_law_190 lk_27 mi_X8_air rfl (t_X8_air (hop hc hm hI)) ty_0 (Nat.le_of_ble_eq_true rfl) ⟨rfl, rfl⟩ ⟨Nat.le_of_ble_eq_true rfl, Nat.le_of_ble_eq_true rfl⟩ hP hP2 hS hl.1 hkn (fun r a1 H1 locs1 hp hP hP2 hS => ?_)
  obtain ⟨hc1, v1, rfl, rfl, hp⟩ := hp
  refine lv_aload_n hx hb dL_law_193 rfl (lv_at hl 2 rfl) ?_
  refine l_call (q := 78) (st := [.int v1]) (avs := []) hX (fun _ h => inM h) (fun _ h => inC h) disMC dL_law_194 lk_30 mi_X9_air rfl (t_X9_air hp) ty_78 (Nat.le_of_ble_eq_true rfl) ⟨rfl, rfl⟩ ⟨Nat.le_of_ble_eq_true rfl, Nat.le_of_ble_eq_true rfl⟩ hP2 hP hS hl.1 hkn (fun r a1 H2 locs2 hp hP2 hP hS => ?_)
  obtain ⟨hm1, v2, rfl, rfl, rfl, hI⟩ := hp
  refine lv_icmp_eq (tgt := 800) hx hb dL_law_197 (by decide) (fun _ => kk hc1 hm1 H2 locs2 hI hP hP2 hS) (fun h => absurd rfl h)
set_option maxHeartbeats 4000000 in
set_option maxRecDepth 100000 in
theorem law_c4 {p : Program} {l : Launch} {e : Env} {s : State} {m : MethodId} {below : List Frame} {meth : Method} {c : Code} {b L : Nat} {xs : Nat → Int32} {D : va_G} {cA : Nat → ClassId} {ad : Nat → Nat} {H : Heap} {locs : List Loc} {k n : Nat} {Q : State → Prop} {ls : Array Slot} {Inv : HP → HP → Prop} {hc hm : HP} {i : Int32} (hX : LX p s m c b L xs D cA ad) (hkn : k + 0 ≤ room_1.cells ∧ n + 0 ≤ room_1.slots) (hI : Inv hc hm) (hin : ∀ j : Int32, 0 ≤ j.toInt → j.toInt < 6 → vp_in (i + j) L) (hP : va_P D CL (xW cA ad (gC, SH, emb hc)) H) (hP2 : va_P D CL (xW cA ad (gM, SH, emb hm)) H) (hS : va_S (lA s) s.heap H locs) (hl : lv_has ls 4 (lL b ad i)) (kk : ∀ (hc1 hm1 : HP) (H1 : Heap) (locs1 : List Loc), Inv hc1 hm1 → va_P D CL (xW cA ad (gC, SH, emb hc1)) H1 → va_P D CL (xW cA ad (gM, SH, emb hm1)) H1 → va_S (lA s) s.heap H1 locs1 → W p l e room_1 s m #[Value.ref b] below meth c H1 locs1 k n Q (F0 m 800 ls [])) (hop : (∀ x0 x1 x2 x3 x4 : Int32, OpI (P_X8_open x0 x1 x2 x3 x4) (P_X9_open x0 x1 x2 x3 x4) Inv)) : W p l e room_1 s m #[Value.ref b] below meth c H locs k n Q (F0 m 202 ls []) := by
  obtain ⟨hx, hb, -⟩ := id hX
  refine lv_aload_n hx hb dL_law_202 rfl (lv_at hl 1 rfl) ?_
  refine l_arg (kx := 1) hX hS hl dL_law_203 dL_law_204 dL_law_205 dL_law_206 dL_law_207 ic_1 (hin 1 (by decide) (by decide)) ?_
  refine l_arg (kx := 2) hX hS hl dL_law_208 dL_law_209 dL_law_210 dL_law_211 dL_law_212 ic_2 (hin 2 (by decide) (by decide)) ?_
  refine l_arg (kx := 3) hX hS hl dL_law_213 dL_law_214 dL_law_215 dL_law_216 dL_law_217 ic_3 (hin 3 (by decide) (by decide)) ?_
  refine l_arg (kx := 4) hX hS hl dL_law_218 dL_law_219 dL_law_220 dL_law_221 dL_law_222 ic_4 (hin 4 (by decide) (by decide)) ?_
  refine l_arg (kx := 5) hX hS hl dL_law_223 dL_law_224 dL_law_225 dL_law_226 dL_law_227 ic_5 (hin 5 (by decide) (by decide)) ?_
  refine l_call (q := 0) (st := []) (avs := [.int (xs (i + 1).toNatClampNeg), .int (xs (i + 2).toNatClampNeg), .int (xs (i + 3).toNatClampNeg), .int (xs (i + 4).toNatClampNeg), .int (xs (i + 5).toNatClampNeg)]) hX (fun _ h => inC h) (fun _ h => inM h) disCM dL_law_228 lk_31 mi_X8_open rfl (t_X8_open (hop (xs (i + 1).toNatClampNeg) (xs (i + 2).toNatClampNeg) (xs (i + 3).toNatClampNeg) (xs (i + 4).toNatClampNeg) (xs (i + 5).toNatClampNeg) hc hm hI)) ty_0 (Nat.le_of_ble_eq_true rfl) ⟨rfl, rfl⟩ ⟨Nat.le_of_ble_eq_true rfl, Nat.le_of_ble_eq_true rfl⟩ hP hP2 hS hl.1 hkn (fun r a1 H1 locs1 hp hP hP2 hS => ?_)
  obtain ⟨hc1, v1, rfl, rfl, hp⟩ := hp
  refine lv_aload_n hx hb dL_law_231 rfl (lv_at hl 2 rfl) ?_
  refine l_arg (kx := 1) hX hS hl dL_law_232 dL_law_233 dL_law_234 dL_law_235 dL_law_236 ic_1 (hin 1 (by decide) (by decide)) ?_
  refine l_arg (kx := 2) hX hS hl dL_law_237 dL_law_238 dL_law_239 dL_law_240 dL_law_241 ic_2 (hin 2 (by decide) (by decide)) ?_
  refine l_arg (kx := 3) hX hS hl dL_law_242 dL_law_243 dL_law_244 dL_law_245 dL_law_246 ic_3 (hin 3 (by decide) (by decide)) ?_
  refine l_arg (kx := 4) hX hS hl dL_law_247 dL_law_248 dL_law_249 dL_law_250 dL_law_251 ic_4 (hin 4 (by decide) (by decide)) ?_
  refine l_arg (kx := 5) hX hS hl dL_law_252 dL_law_253 dL_law_254 dL_law_255 dL_law_256 ic_5 (hin 5 (by decide) (by decide)) ?_
  refine l_call (q := 78) (st := [.int v1]) (avs := [.int (xs (i + 1).toNatClampNeg), .int (xs (i + 2).toNatClampNeg), .int (xs (i + 3).toNatClampNeg), .int (xs (i + 4).toNatClampNeg), .int (xs (i + 5).toNatClampNeg)]) hX (fun _ h => inM h) (fun _ h => inC h) disMC dL_law_257 lk_35 mi_X9_open rfl (t_X9_open hp) ty_78 (Nat.le_of_ble_eq_true rfl) ⟨rfl, rfl⟩ ⟨Nat.le_of_ble_eq_true rfl, Nat.le_of_ble_eq_true rfl⟩ hP2 hP hS hl.1 hkn (fun r a1 H2 locs2 hp hP2 hP hS => ?_)
  obtain ⟨hm1, v2, rfl, rfl, rfl, hI⟩ := hp
  refine lv_icmp_eq (tgt := 800) hx hb dL_law_260 (by decide) (fun _ => kk hc1 hm1 H2 locs2 hI hP hP2 hS) (fun h => absurd rfl h)
set_option maxHeartbeats 4000000 in
set_option maxRecDepth 100000 in
theorem law_c5 {p : Program} {l : Launch} {e : Env} {s : State} {m : MethodId} {below : List Frame} {meth : Method} {c : Code} {b L : Nat} {xs : Nat → Int32} {D : va_G} {cA : Nat → ClassId} {ad : Nat → Nat} {H : Heap} {locs : List Loc} {k n : Nat} {Q : State → Prop} {ls : Array Slot} {Inv : HP → HP → Prop} {hc hm : HP} {i : Int32} (hX : LX p s m c b L xs D cA ad) (hkn : k + 0 ≤ room_1.cells ∧ n + 0 ≤ room_1.slots) (hI : Inv hc hm) (hin : ∀ j : Int32, 0 ≤ j.toInt → j.toInt < 6 → vp_in (i + j) L) (hP : va_P D CL (xW cA ad (gC, SH, emb hc)) H) (hP2 : va_P D CL (xW cA ad (gM, SH, emb hm)) H) (hS : va_S (lA s) s.heap H locs) (hl : lv_has ls 4 (lL b ad i)) (kk : ∀ (hc1 hm1 : HP) (H1 : Heap) (locs1 : List Loc), Inv hc1 hm1 → va_P D CL (xW cA ad (gC, SH, emb hc1)) H1 → va_P D CL (xW cA ad (gM, SH, emb hm1)) H1 → va_S (lA s) s.heap H1 locs1 → W p l e room_1 s m #[Value.ref b] below meth c H1 locs1 k n Q (F0 m 800 ls [])) (hop : (∀ x0 : Int32, OpI (P_X8_close x0) (P_X9_close x0) Inv)) : W p l e room_1 s m #[Value.ref b] below meth c H locs k n Q (F0 m 265 ls []) := by
  obtain ⟨hx, hb, -⟩ := id hX
  refine lv_aload_n hx hb dL_law_265 rfl (lv_at hl 1 rfl) ?_
  refine l_arg (kx := 1) hX hS hl dL_law_266 dL_law_267 dL_law_268 dL_law_269 dL_law_270 ic_1 (hin 1 (by decide) (by decide)) ?_
  refine l_call (q := 0) (st := []) (avs := [.int (xs (i + 1).toNatClampNeg)]) hX (fun _ h => inC h) (fun _ h => inM h) disCM dL_law_271 lk_36 mi_X8_close rfl (t_X8_close (hop (xs (i + 1).toNatClampNeg) hc hm hI)) ty_0 (Nat.le_of_ble_eq_true rfl) ⟨rfl, rfl⟩ ⟨Nat.le_of_ble_eq_true rfl, Nat.le_of_ble_eq_true rfl⟩ hP hP2 hS hl.1 hkn (fun r a1 H1 locs1 hp hP hP2 hS => ?_)
  obtain ⟨hc1, v1, rfl, rfl, hp⟩ := hp
  refine lv_aload_n hx hb dL_law_274 rfl (lv_at hl 2 rfl) ?_
  refine l_arg (kx := 1) hX hS hl dL_law_275 dL_law_276 dL_law_277 dL_law_278 dL_law_279 ic_1 (hin 1 (by decide) (by decide)) ?_
  refine l_call (q := 78) (st := [.int v1]) (avs := [.int (xs (i + 1).toNatClampNeg)]) hX (fun _ h => inM h) (fun _ h => inC h) disMC dL_law_280 lk_39 mi_X9_close rfl (t_X9_close hp) ty_78 (Nat.le_of_ble_eq_true rfl) ⟨rfl, rfl⟩ ⟨Nat.le_of_ble_eq_true rfl, Nat.le_of_ble_eq_true rfl⟩ hP2 hP hS hl.1 hkn (fun r a1 H2 locs2 hp hP2 hP hS => ?_)
  obtain ⟨hm1, v2, rfl, rfl, rfl, hI⟩ := hp
  refine lv_icmp_eq (tgt := 800) hx hb dL_law_283 (by decide) (fun _ => kk hc1 hm1 H2 locs2 hI hP hP2 hS) (fun h => absurd rfl h)
set_option maxHeartbeats 4000000 in
set_option maxRecDepth 100000 in
theorem law_c6 {p : Program} {l : Launch} {e : Env} {s : State} {m : MethodId} {below : List Frame} {meth : Method} {c : Code} {b L : Nat} {xs : Nat → Int32} {D : va_G} {cA : Nat → ClassId} {ad : Nat → Nat} {H : Heap} {locs : List Loc} {k n : Nat} {Q : State → Prop} {ls : Array Slot} {Inv : HP → HP → Prop} {hc hm : HP} {i : Int32} (hX : LX p s m c b L xs D cA ad) (hkn : k + 0 ≤ room_1.cells ∧ n + 0 ≤ room_1.slots) (hI : Inv hc hm) (hin : ∀ j : Int32, 0 ≤ j.toInt → j.toInt < 6 → vp_in (i + j) L) (hP : va_P D CL (xW cA ad (gC, SH, emb hc)) H) (hP2 : va_P D CL (xW cA ad (gM, SH, emb hm)) H) (hS : va_S (lA s) s.heap H locs) (hl : lv_has ls 4 (lL b ad i)) (kk : ∀ (hc1 hm1 : HP) (H1 : Heap) (locs1 : List Loc), Inv hc1 hm1 → va_P D CL (xW cA ad (gC, SH, emb hc1)) H1 → va_P D CL (xW cA ad (gM, SH, emb hm1)) H1 → va_S (lA s) s.heap H1 locs1 → W p l e room_1 s m #[Value.ref b] below meth c H1 locs1 k n Q (F0 m 800 ls [])) (hop : (∀ x0 x1 x2 : Int32, OpI (P_X8_feed x0 x1 x2) (P_X9_feed x0 x1 x2) Inv)) : W p l e room_1 s m #[Value.ref b] below meth c H locs k n Q (F0 m 288 ls []) := by
  obtain ⟨hx, hb, -⟩ := id hX
  refine lv_aload_n hx hb dL_law_288 rfl (lv_at hl 1 rfl) ?_
  refine l_arg (kx := 1) hX hS hl dL_law_289 dL_law_290 dL_law_291 dL_law_292 dL_law_293 ic_1 (hin 1 (by decide) (by decide)) ?_
  refine l_arg (kx := 2) hX hS hl dL_law_294 dL_law_295 dL_law_296 dL_law_297 dL_law_298 ic_2 (hin 2 (by decide) (by decide)) ?_
  refine l_arg (kx := 3) hX hS hl dL_law_299 dL_law_300 dL_law_301 dL_law_302 dL_law_303 ic_3 (hin 3 (by decide) (by decide)) ?_
  refine l_call (q := 0) (st := []) (avs := [.int (xs (i + 1).toNatClampNeg), .int (xs (i + 2).toNatClampNeg), .int (xs (i + 3).toNatClampNeg)]) hX (fun _ h => inC h) (fun _ h => inM h) disCM dL_law_304 lk_40 mi_X8_feed rfl (t_X8_feed (hop (xs (i + 1).toNatClampNeg) (xs (i + 2).toNatClampNeg) (xs (i + 3).toNatClampNeg) hc hm hI)) ty_0 (Nat.le_of_ble_eq_true rfl) ⟨rfl, rfl⟩ ⟨Nat.le_of_ble_eq_true rfl, Nat.le_of_ble_eq_true rfl⟩ hP hP2 hS hl.1 hkn (fun r a1 H1 locs1 hp hP hP2 hS => ?_)
  obtain ⟨hc1, v1, rfl, rfl, hp⟩ := hp
  refine lv_aload_n hx hb dL_law_307 rfl (lv_at hl 2 rfl) ?_
  refine l_arg (kx := 1) hX hS hl dL_law_308 dL_law_309 dL_law_310 dL_law_311 dL_law_312 ic_1 (hin 1 (by decide) (by decide)) ?_
  refine l_arg (kx := 2) hX hS hl dL_law_313 dL_law_314 dL_law_315 dL_law_316 dL_law_317 ic_2 (hin 2 (by decide) (by decide)) ?_
  refine l_arg (kx := 3) hX hS hl dL_law_318 dL_law_319 dL_law_320 dL_law_321 dL_law_322 ic_3 (hin 3 (by decide) (by decide)) ?_
  refine l_call (q := 78) (st := [.int v1]) (avs := [.int (xs (i + 1).toNatClampNeg), .int (xs (i + 2).toNatClampNeg), .int (xs (i + 3).toNatClampNeg)]) hX (fun _ h => inM h) (fun _ h => inC h) disMC dL_law_323 lk_44 mi_X9_feed rfl (t_X9_feed hp) ty_78 (Nat.le_of_ble_eq_true rfl) ⟨rfl, rfl⟩ ⟨Nat.le_of_ble_eq_true rfl, Nat.le_of_ble_eq_true rfl⟩ hP2 hP hS hl.1 hkn (fun r a1 H2 locs2 hp hP2 hP hS => ?_)
  obtain ⟨hm1, v2, rfl, rfl, rfl, hI⟩ := hp
  refine lv_icmp_eq (tgt := 800) hx hb dL_law_326 (by decide) (fun _ => kk hc1 hm1 H2 locs2 hI hP hP2 hS) (fun h => absurd rfl h)
set_option maxHeartbeats 4000000 in
set_option maxRecDepth 100000 in
theorem law_c7 {p : Program} {l : Launch} {e : Env} {s : State} {m : MethodId} {below : List Frame} {meth : Method} {c : Code} {b L : Nat} {xs : Nat → Int32} {D : va_G} {cA : Nat → ClassId} {ad : Nat → Nat} {H : Heap} {locs : List Loc} {k n : Nat} {Q : State → Prop} {ls : Array Slot} {Inv : HP → HP → Prop} {hc hm : HP} {i : Int32} (hX : LX p s m c b L xs D cA ad) (hkn : k + 0 ≤ room_1.cells ∧ n + 0 ≤ room_1.slots) (hI : Inv hc hm) (hin : ∀ j : Int32, 0 ≤ j.toInt → j.toInt < 6 → vp_in (i + j) L) (hP : va_P D CL (xW cA ad (gC, SH, emb hc)) H) (hP2 : va_P D CL (xW cA ad (gM, SH, emb hm)) H) (hS : va_S (lA s) s.heap H locs) (hl : lv_has ls 4 (lL b ad i)) (kk : ∀ (hc1 hm1 : HP) (H1 : Heap) (locs1 : List Loc), Inv hc1 hm1 → va_P D CL (xW cA ad (gC, SH, emb hc1)) H1 → va_P D CL (xW cA ad (gM, SH, emb hm1)) H1 → va_S (lA s) s.heap H1 locs1 → W p l e room_1 s m #[Value.ref b] below meth c H1 locs1 k n Q (F0 m 800 ls [])) (hop : (∀ x0 : Int32, OpI (P_X8_bundle x0) (P_X9_bundle x0) Inv)) : W p l e room_1 s m #[Value.ref b] below meth c H locs k n Q (F0 m 331 ls []) := by
  obtain ⟨hx, hb, -⟩ := id hX
  refine lv_aload_n hx hb dL_law_331 rfl (lv_at hl 1 rfl) ?_
  refine l_arg (kx := 1) hX hS hl dL_law_332 dL_law_333 dL_law_334 dL_law_335 dL_law_336 ic_1 (hin 1 (by decide) (by decide)) ?_
  refine l_call (q := 0) (st := []) (avs := [.int (xs (i + 1).toNatClampNeg)]) hX (fun _ h => inC h) (fun _ h => inM h) disCM dL_law_337 lk_45 mi_X8_bundle rfl (t_X8_bundle (hop (xs (i + 1).toNatClampNeg) hc hm hI)) ty_0 (Nat.le_of_ble_eq_true rfl) ⟨rfl, rfl⟩ ⟨Nat.le_of_ble_eq_true rfl, Nat.le_of_ble_eq_true rfl⟩ hP hP2 hS hl.1 hkn (fun r a1 H1 locs1 hp hP hP2 hS => ?_)
  obtain ⟨hc1, v1, rfl, rfl, hp⟩ := hp
  refine lv_aload_n hx hb dL_law_340 rfl (lv_at hl 2 rfl) ?_
  refine l_arg (kx := 1) hX hS hl dL_law_341 dL_law_342 dL_law_343 dL_law_344 dL_law_345 ic_1 (hin 1 (by decide) (by decide)) ?_
  refine l_call (q := 78) (st := [.int v1]) (avs := [.int (xs (i + 1).toNatClampNeg)]) hX (fun _ h => inM h) (fun _ h => inC h) disMC dL_law_346 lk_48 mi_X9_bundle rfl (t_X9_bundle hp) ty_78 (Nat.le_of_ble_eq_true rfl) ⟨rfl, rfl⟩ ⟨Nat.le_of_ble_eq_true rfl, Nat.le_of_ble_eq_true rfl⟩ hP2 hP hS hl.1 hkn (fun r a1 H2 locs2 hp hP2 hP hS => ?_)
  obtain ⟨hm1, v2, rfl, rfl, rfl, hI⟩ := hp
  refine lv_icmp_eq (tgt := 800) hx hb dL_law_349 (by decide) (fun _ => kk hc1 hm1 H2 locs2 hI hP hP2 hS) (fun h => absurd rfl h)
set_option maxHeartbeats 4000000 in
set_option maxRecDepth 100000 in
theorem law_c8 {p : Program} {l : Launch} {e : Env} {s : State} {m : MethodId} {below : List Frame} {meth : Method} {c : Code} {b L : Nat} {xs : Nat → Int32} {D : va_G} {cA : Nat → ClassId} {ad : Nat → Nat} {H : Heap} {locs : List Loc} {k n : Nat} {Q : State → Prop} {ls : Array Slot} {Inv : HP → HP → Prop} {hc hm : HP} {i : Int32} (hX : LX p s m c b L xs D cA ad) (hkn : k + 0 ≤ room_1.cells ∧ n + 0 ≤ room_1.slots) (hI : Inv hc hm) (hin : ∀ j : Int32, 0 ≤ j.toInt → j.toInt < 6 → vp_in (i + j) L) (hP : va_P D CL (xW cA ad (gC, SH, emb hc)) H) (hP2 : va_P D CL (xW cA ad (gM, SH, emb hm)) H) (hS : va_S (lA s) s.heap H locs) (hl : lv_has ls 4 (lL b ad i)) (kk : ∀ (hc1 hm1 : HP) (H1 : Heap) (locs1 : List Loc), Inv hc1 hm1 → va_P D CL (xW cA ad (gC, SH, emb hc1)) H1 → va_P D CL (xW cA ad (gM, SH, emb hm1)) H1 → va_S (lA s) s.heap H1 locs1 → W p l e room_1 s m #[Value.ref b] below meth c H1 locs1 k n Q (F0 m 800 ls [])) (hop : (∀ x0 : Int32, OpI (P_X8_expire x0) (P_X9_expire x0) Inv)) : W p l e room_1 s m #[Value.ref b] below meth c H locs k n Q (F0 m 354 ls []) := by
  obtain ⟨hx, hb, -⟩ := id hX
  refine lv_aload_n hx hb dL_law_354 rfl (lv_at hl 1 rfl) ?_
  refine l_arg (kx := 1) hX hS hl dL_law_355 dL_law_356 dL_law_357 dL_law_358 dL_law_359 ic_1 (hin 1 (by decide) (by decide)) ?_
  refine l_call (q := 0) (st := []) (avs := [.int (xs (i + 1).toNatClampNeg)]) hX (fun _ h => inC h) (fun _ h => inM h) disCM dL_law_360 lk_49 mi_X8_expire rfl (t_X8_expire (hop (xs (i + 1).toNatClampNeg) hc hm hI)) ty_0 (Nat.le_of_ble_eq_true rfl) ⟨rfl, rfl⟩ ⟨Nat.le_of_ble_eq_true rfl, Nat.le_of_ble_eq_true rfl⟩ hP hP2 hS hl.1 hkn (fun r a1 H1 locs1 hp hP hP2 hS => ?_)
  obtain ⟨hc1, v1, rfl, rfl, hp⟩ := hp
  refine lv_aload_n hx hb dL_law_363 rfl (lv_at hl 2 rfl) ?_
  refine l_arg (kx := 1) hX hS hl dL_law_364 dL_law_365 dL_law_366 dL_law_367 dL_law_368 ic_1 (hin 1 (by decide) (by decide)) ?_
  refine l_call (q := 78) (st := [.int v1]) (avs := [.int (xs (i + 1).toNatClampNeg)]) hX (fun _ h => inM h) (fun _ h => inC h) disMC dL_law_369 lk_52 mi_X9_expire rfl (t_X9_expire hp) ty_78 (Nat.le_of_ble_eq_true rfl) ⟨rfl, rfl⟩ ⟨Nat.le_of_ble_eq_true rfl, Nat.le_of_ble_eq_true rfl⟩ hP2 hP hS hl.1 hkn (fun r a1 H2 locs2 hp hP2 hP hS => ?_)
  obtain ⟨hm1, v2, rfl, rfl, rfl, hI⟩ := hp
  refine lv_icmp_eq (tgt := 800) hx hb dL_law_372 (by decide) (fun _ => kk hc1 hm1 H2 locs2 hI hP hP2 hS) (fun h => absurd rfl h)
set_option maxHeartbeats 4000000 in
set_option maxRecDepth 100000 in
theorem law_c9 {p : Program} {l : Launch} {e : Env} {s : State} {m : MethodId} {below : List Frame} {meth : Method} {c : Code} {b L : Nat} {xs : Nat → Int32} {D : va_G} {cA : Nat → ClassId} {ad : Nat → Nat} {H : Heap} {locs : List Loc} {k n : Nat} {Q : State → Prop} {ls : Array Slot} {Inv : HP → HP → Prop} {hc hm : HP} {i : Int32} (hX : LX p s m c b L xs D cA ad) (hkn : k + 0 ≤ room_1.cells ∧ n + 0 ≤ room_1.slots) (hI : Inv hc hm) (hin : ∀ j : Int32, 0 ≤ j.toInt → j.toInt < 6 → vp_in (i + j) L) (hP : va_P D CL (xW cA ad (gC, SH, emb hc)) H) (hP2 : va_P D CL (xW cA ad (gM, SH, emb hm)) H) (hS : va_S (lA s) s.heap H locs) (hl : lv_has ls 4 (lL b ad i)) (kk : ∀ (hc1 hm1 : HP) (H1 : Heap) (locs1 : List Loc), Inv hc1 hm1 → va_P D CL (xW cA ad (gC, SH, emb hc1)) H1 → va_P D CL (xW cA ad (gM, SH, emb hm1)) H1 → va_S (lA s) s.heap H1 locs1 → W p l e room_1 s m #[Value.ref b] below meth c H1 locs1 k n Q (F0 m 800 ls [])) (hop : (∀ x0 x1 : Int32, OpI (P_X8_deliver x0 x1) (P_X9_deliver x0 x1) Inv)) : W p l e room_1 s m #[Value.ref b] below meth c H locs k n Q (F0 m 377 ls []) := by
  obtain ⟨hx, hb, -⟩ := id hX
  refine lv_aload_n hx hb dL_law_377 rfl (lv_at hl 1 rfl) ?_
  refine l_arg (kx := 1) hX hS hl dL_law_378 dL_law_379 dL_law_380 dL_law_381 dL_law_382 ic_1 (hin 1 (by decide) (by decide)) ?_
  refine l_arg (kx := 2) hX hS hl dL_law_383 dL_law_384 dL_law_385 dL_law_386 dL_law_387 ic_2 (hin 2 (by decide) (by decide)) ?_
  refine l_call (q := 0) (st := []) (avs := [.int (xs (i + 1).toNatClampNeg), .int (xs (i + 2).toNatClampNeg)]) hX (fun _ h => inC h) (fun _ h => inM h) disCM dL_law_388 lk_53 mi_X8_deliver rfl (t_X8_deliver (hop (xs (i + 1).toNatClampNeg) (xs (i + 2).toNatClampNeg) hc hm hI)) ty_0 (Nat.le_of_ble_eq_true rfl) ⟨rfl, rfl⟩ ⟨Nat.le_of_ble_eq_true rfl, Nat.le_of_ble_eq_true rfl⟩ hP hP2 hS hl.1 hkn (fun r a1 H1 locs1 hp hP hP2 hS => ?_)
  obtain ⟨hc1, v1, rfl, rfl, hp⟩ := hp
  refine lv_aload_n hx hb dL_law_391 rfl (lv_at hl 2 rfl) ?_
  refine l_arg (kx := 1) hX hS hl dL_law_392 dL_law_393 dL_law_394 dL_law_395 dL_law_396 ic_1 (hin 1 (by decide) (by decide)) ?_
  refine l_arg (kx := 2) hX hS hl dL_law_397 dL_law_398 dL_law_399 dL_law_400 dL_law_401 ic_2 (hin 2 (by decide) (by decide)) ?_
  refine l_call (q := 78) (st := [.int v1]) (avs := [.int (xs (i + 1).toNatClampNeg), .int (xs (i + 2).toNatClampNeg)]) hX (fun _ h => inM h) (fun _ h => inC h) disMC dL_law_402 lk_57 mi_X9_deliver rfl (t_X9_deliver hp) ty_78 (Nat.le_of_ble_eq_true rfl) ⟨rfl, rfl⟩ ⟨Nat.le_of_ble_eq_true rfl, Nat.le_of_ble_eq_true rfl⟩ hP2 hP hS hl.1 hkn (fun r a1 H2 locs2 hp hP2 hP hS => ?_)
  obtain ⟨hm1, v2, rfl, rfl, rfl, hI⟩ := hp
  refine lv_icmp_eq (tgt := 800) hx hb dL_law_405 (by decide) (fun _ => kk hc1 hm1 H2 locs2 hI hP hP2 hS) (fun h => absurd rfl h)
set_option maxHeartbeats 4000000 in
set_option maxRecDepth 100000 in
theorem law_c10 {p : Program} {l : Launch} {e : Env} {s : State} {m : MethodId} {below : List Frame} {meth : Method} {c : Code} {b L : Nat} {xs : Nat → Int32} {D : va_G} {cA : Nat → ClassId} {ad : Nat → Nat} {H : Heap} {locs : List Loc} {k n : Nat} {Q : State → Prop} {ls : Array Slot} {Inv : HP → HP → Prop} {hc hm : HP} {i : Int32} (hX : LX p s m c b L xs D cA ad) (hkn : k + 0 ≤ room_1.cells ∧ n + 0 ≤ room_1.slots) (hI : Inv hc hm) (hin : ∀ j : Int32, 0 ≤ j.toInt → j.toInt < 6 → vp_in (i + j) L) (hP : va_P D CL (xW cA ad (gC, SH, emb hc)) H) (hP2 : va_P D CL (xW cA ad (gM, SH, emb hm)) H) (hS : va_S (lA s) s.heap H locs) (hl : lv_has ls 4 (lL b ad i)) (kk : ∀ (hc1 hm1 : HP) (H1 : Heap) (locs1 : List Loc), Inv hc1 hm1 → va_P D CL (xW cA ad (gC, SH, emb hc1)) H1 → va_P D CL (xW cA ad (gM, SH, emb hm1)) H1 → va_S (lA s) s.heap H1 locs1 → W p l e room_1 s m #[Value.ref b] below meth c H1 locs1 k n Q (F0 m 800 ls [])) (hop : (∀ x0 : Int32, OpI (P_X8_lose x0) (P_X9_lose x0) Inv)) : W p l e room_1 s m #[Value.ref b] below meth c H locs k n Q (F0 m 410 ls []) := by
  obtain ⟨hx, hb, -⟩ := id hX
  refine lv_aload_n hx hb dL_law_410 rfl (lv_at hl 1 rfl) ?_
  refine l_arg (kx := 1) hX hS hl dL_law_411 dL_law_412 dL_law_413 dL_law_414 dL_law_415 ic_1 (hin 1 (by decide) (by decide)) ?_
  refine l_call (q := 0) (st := []) (avs := [.int (xs (i + 1).toNatClampNeg)]) hX (fun _ h => inC h) (fun _ h => inM h) disCM dL_law_416 lk_58 mi_X8_lose rfl (t_X8_lose (hop (xs (i + 1).toNatClampNeg) hc hm hI)) ty_0 (Nat.le_of_ble_eq_true rfl) ⟨rfl, rfl⟩ ⟨Nat.le_of_ble_eq_true rfl, Nat.le_of_ble_eq_true rfl⟩ hP hP2 hS hl.1 hkn (fun r a1 H1 locs1 hp hP hP2 hS => ?_)
  obtain ⟨hc1, v1, rfl, rfl, hp⟩ := hp
  refine lv_aload_n hx hb dL_law_419 rfl (lv_at hl 2 rfl) ?_
  refine l_arg (kx := 1) hX hS hl dL_law_420 dL_law_421 dL_law_422 dL_law_423 dL_law_424 ic_1 (hin 1 (by decide) (by decide)) ?_
  refine l_call (q := 78) (st := [.int v1]) (avs := [.int (xs (i + 1).toNatClampNeg)]) hX (fun _ h => inM h) (fun _ h => inC h) disMC dL_law_425 lk_61 mi_X9_lose rfl (t_X9_lose hp) ty_78 (Nat.le_of_ble_eq_true rfl) ⟨rfl, rfl⟩ ⟨Nat.le_of_ble_eq_true rfl, Nat.le_of_ble_eq_true rfl⟩ hP2 hP hS hl.1 hkn (fun r a1 H2 locs2 hp hP2 hP hS => ?_)
  obtain ⟨hm1, v2, rfl, rfl, rfl, hI⟩ := hp
  refine lv_icmp_eq (tgt := 800) hx hb dL_law_428 (by decide) (fun _ => kk hc1 hm1 H2 locs2 hI hP hP2 hS) (fun h => absurd rfl h)
set_option maxHeartbeats 4000000 in
set_option maxRecDepth 100000 in
theorem law_c11 {p : Program} {l : Launch} {e : Env} {s : State} {m : MethodId} {below : List Frame} {meth : Method} {c : Code} {b L : Nat} {xs : Nat → Int32} {D : va_G} {cA : Nat → ClassId} {ad : Nat → Nat} {H : Heap} {locs : List Loc} {k n : Nat} {Q : State → Prop} {ls : Array Slot} {Inv : HP → HP → Prop} {hc hm : HP} {i : Int32} (hX : LX p s m c b L xs D cA ad) (hkn : k + 0 ≤ room_1.cells ∧ n + 0 ≤ room_1.slots) (hI : Inv hc hm) (hin : ∀ j : Int32, 0 ≤ j.toInt → j.toInt < 6 → vp_in (i + j) L) (hP : va_P D CL (xW cA ad (gC, SH, emb hc)) H) (hP2 : va_P D CL (xW cA ad (gM, SH, emb hm)) H) (hS : va_S (lA s) s.heap H locs) (hl : lv_has ls 4 (lL b ad i)) (kk : ∀ (hc1 hm1 : HP) (H1 : Heap) (locs1 : List Loc), Inv hc1 hm1 → va_P D CL (xW cA ad (gC, SH, emb hc1)) H1 → va_P D CL (xW cA ad (gM, SH, emb hm1)) H1 → va_S (lA s) s.heap H1 locs1 → W p l e room_1 s m #[Value.ref b] below meth c H1 locs1 k n Q (F0 m 800 ls [])) (hop : (∀ x0 : Int32, OpI (P_X8_pass x0) (P_X9_pass x0) Inv)) : W p l e room_1 s m #[Value.ref b] below meth c H locs k n Q (F0 m 433 ls []) := by
  obtain ⟨hx, hb, -⟩ := id hX
  refine lv_aload_n hx hb dL_law_433 rfl (lv_at hl 1 rfl) ?_
  refine l_arg (kx := 1) hX hS hl dL_law_434 dL_law_435 dL_law_436 dL_law_437 dL_law_438 ic_1 (hin 1 (by decide) (by decide)) ?_
  refine l_call (q := 0) (st := []) (avs := [.int (xs (i + 1).toNatClampNeg)]) hX (fun _ h => inC h) (fun _ h => inM h) disCM dL_law_439 lk_62 mi_X8_pass rfl (t_X8_pass (hop (xs (i + 1).toNatClampNeg) hc hm hI)) ty_0 (Nat.le_of_ble_eq_true rfl) ⟨rfl, rfl⟩ ⟨Nat.le_of_ble_eq_true rfl, Nat.le_of_ble_eq_true rfl⟩ hP hP2 hS hl.1 hkn (fun r a1 H1 locs1 hp hP hP2 hS => ?_)
  obtain ⟨hc1, v1, rfl, rfl, hp⟩ := hp
  refine lv_aload_n hx hb dL_law_442 rfl (lv_at hl 2 rfl) ?_
  refine l_arg (kx := 1) hX hS hl dL_law_443 dL_law_444 dL_law_445 dL_law_446 dL_law_447 ic_1 (hin 1 (by decide) (by decide)) ?_
  refine l_call (q := 78) (st := [.int v1]) (avs := [.int (xs (i + 1).toNatClampNeg)]) hX (fun _ h => inM h) (fun _ h => inC h) disMC dL_law_448 lk_65 mi_X9_pass rfl (t_X9_pass hp) ty_78 (Nat.le_of_ble_eq_true rfl) ⟨rfl, rfl⟩ ⟨Nat.le_of_ble_eq_true rfl, Nat.le_of_ble_eq_true rfl⟩ hP2 hP hS hl.1 hkn (fun r a1 H2 locs2 hp hP2 hP hS => ?_)
  obtain ⟨hm1, v2, rfl, rfl, rfl, hI⟩ := hp
  refine lv_icmp_eq (tgt := 800) hx hb dL_law_451 (by decide) (fun _ => kk hc1 hm1 H2 locs2 hI hP hP2 hS) (fun h => absurd rfl h)
set_option maxHeartbeats 4000000 in
set_option maxRecDepth 100000 in
theorem law_c12 {p : Program} {l : Launch} {e : Env} {s : State} {m : MethodId} {below : List Frame} {meth : Method} {c : Code} {b L : Nat} {xs : Nat → Int32} {D : va_G} {cA : Nat → ClassId} {ad : Nat → Nat} {H : Heap} {locs : List Loc} {k n : Nat} {Q : State → Prop} {ls : Array Slot} {Inv : HP → HP → Prop} {hc hm : HP} {i : Int32} (hX : LX p s m c b L xs D cA ad) (hkn : k + 0 ≤ room_1.cells ∧ n + 0 ≤ room_1.slots) (hI : Inv hc hm) (hin : ∀ j : Int32, 0 ≤ j.toInt → j.toInt < 6 → vp_in (i + j) L) (hP : va_P D CL (xW cA ad (gC, SH, emb hc)) H) (hP2 : va_P D CL (xW cA ad (gM, SH, emb hm)) H) (hS : va_S (lA s) s.heap H locs) (hl : lv_has ls 4 (lL b ad i)) (kk : ∀ (hc1 hm1 : HP) (H1 : Heap) (locs1 : List Loc), Inv hc1 hm1 → va_P D CL (xW cA ad (gC, SH, emb hc1)) H1 → va_P D CL (xW cA ad (gM, SH, emb hm1)) H1 → va_S (lA s) s.heap H1 locs1 → W p l e room_1 s m #[Value.ref b] below meth c H1 locs1 k n Q (F0 m 800 ls [])) (hop : (∀ x0 : Int32, OpI (P_X8_about x0) (P_X9_about x0) Inv)) : W p l e room_1 s m #[Value.ref b] below meth c H locs k n Q (F0 m 456 ls []) := by
  obtain ⟨hx, hb, -⟩ := id hX
  refine lv_aload_n hx hb dL_law_456 rfl (lv_at hl 1 rfl) ?_
  refine l_arg (kx := 1) hX hS hl dL_law_457 dL_law_458 dL_law_459 dL_law_460 dL_law_461 ic_1 (hin 1 (by decide) (by decide)) ?_
  refine l_call (q := 0) (st := []) (avs := [.int (xs (i + 1).toNatClampNeg)]) hX (fun _ h => inC h) (fun _ h => inM h) disCM dL_law_462 lk_66 mi_X8_about rfl (t_X8_about (hop (xs (i + 1).toNatClampNeg) hc hm hI)) ty_0 (Nat.le_of_ble_eq_true rfl) ⟨rfl, rfl⟩ ⟨Nat.le_of_ble_eq_true rfl, Nat.le_of_ble_eq_true rfl⟩ hP hP2 hS hl.1 hkn (fun r a1 H1 locs1 hp hP hP2 hS => ?_)
  obtain ⟨hc1, v1, rfl, rfl, hp⟩ := hp
  refine lv_aload_n hx hb dL_law_465 rfl (lv_at hl 2 rfl) ?_
  refine l_arg (kx := 1) hX hS hl dL_law_466 dL_law_467 dL_law_468 dL_law_469 dL_law_470 ic_1 (hin 1 (by decide) (by decide)) ?_
  refine l_call (q := 78) (st := [.int v1]) (avs := [.int (xs (i + 1).toNatClampNeg)]) hX (fun _ h => inM h) (fun _ h => inC h) disMC dL_law_471 lk_69 mi_X9_about rfl (t_X9_about hp) ty_78 (Nat.le_of_ble_eq_true rfl) ⟨rfl, rfl⟩ ⟨Nat.le_of_ble_eq_true rfl, Nat.le_of_ble_eq_true rfl⟩ hP2 hP hS hl.1 hkn (fun r a1 H2 locs2 hp hP2 hP hS => ?_)
  obtain ⟨hm1, v2, rfl, rfl, rfl, hI⟩ := hp
  refine lv_icmp_eq (tgt := 800) hx hb dL_law_474 (by decide) (fun _ => kk hc1 hm1 H2 locs2 hI hP hP2 hS) (fun h => absurd rfl h)
set_option maxHeartbeats 4000000 in
set_option maxRecDepth 100000 in
theorem law_c13 {p : Program} {l : Launch} {e : Env} {s : State} {m : MethodId} {below : List Frame} {meth : Method} {c : Code} {b L : Nat} {xs : Nat → Int32} {D : va_G} {cA : Nat → ClassId} {ad : Nat → Nat} {H : Heap} {locs : List Loc} {k n : Nat} {Q : State → Prop} {ls : Array Slot} {Inv : HP → HP → Prop} {hc hm : HP} {i : Int32} (hX : LX p s m c b L xs D cA ad) (hkn : k + 0 ≤ room_1.cells ∧ n + 0 ≤ room_1.slots) (hI : Inv hc hm) (hin : ∀ j : Int32, 0 ≤ j.toInt → j.toInt < 6 → vp_in (i + j) L) (hP : va_P D CL (xW cA ad (gC, SH, emb hc)) H) (hP2 : va_P D CL (xW cA ad (gM, SH, emb hm)) H) (hS : va_S (lA s) s.heap H locs) (hl : lv_has ls 4 (lL b ad i)) (kk : ∀ (hc1 hm1 : HP) (H1 : Heap) (locs1 : List Loc), Inv hc1 hm1 → va_P D CL (xW cA ad (gC, SH, emb hc1)) H1 → va_P D CL (xW cA ad (gM, SH, emb hm1)) H1 → va_S (lA s) s.heap H1 locs1 → W p l e room_1 s m #[Value.ref b] below meth c H1 locs1 k n Q (F0 m 800 ls [])) (hop : (∀ x0 x1 : Int32, OpI (P_X8_near x0 x1) (P_X9_near x0 x1) Inv)) : W p l e room_1 s m #[Value.ref b] below meth c H locs k n Q (F0 m 479 ls []) := by
  obtain ⟨hx, hb, -⟩ := id hX
  refine lv_aload_n hx hb dL_law_479 rfl (lv_at hl 1 rfl) ?_
  refine l_arg (kx := 1) hX hS hl dL_law_480 dL_law_481 dL_law_482 dL_law_483 dL_law_484 ic_1 (hin 1 (by decide) (by decide)) ?_
  refine l_arg (kx := 2) hX hS hl dL_law_485 dL_law_486 dL_law_487 dL_law_488 dL_law_489 ic_2 (hin 2 (by decide) (by decide)) ?_
  refine l_call (q := 0) (st := []) (avs := [.int (xs (i + 1).toNatClampNeg), .int (xs (i + 2).toNatClampNeg)]) hX (fun _ h => inC h) (fun _ h => inM h) disCM dL_law_490 lk_70 mi_X8_near rfl (t_X8_near (hop (xs (i + 1).toNatClampNeg) (xs (i + 2).toNatClampNeg) hc hm hI)) ty_0 (Nat.le_of_ble_eq_true rfl) ⟨rfl, rfl⟩ ⟨Nat.le_of_ble_eq_true rfl, Nat.le_of_ble_eq_true rfl⟩ hP hP2 hS hl.1 hkn (fun r a1 H1 locs1 hp hP hP2 hS => ?_)
  obtain ⟨hc1, v1, rfl, rfl, hp⟩ := hp
  refine lv_aload_n hx hb dL_law_493 rfl (lv_at hl 2 rfl) ?_
  refine l_arg (kx := 1) hX hS hl dL_law_494 dL_law_495 dL_law_496 dL_law_497 dL_law_498 ic_1 (hin 1 (by decide) (by decide)) ?_
  refine l_arg (kx := 2) hX hS hl dL_law_499 dL_law_500 dL_law_501 dL_law_502 dL_law_503 ic_2 (hin 2 (by decide) (by decide)) ?_
  refine l_call (q := 78) (st := [.int v1]) (avs := [.int (xs (i + 1).toNatClampNeg), .int (xs (i + 2).toNatClampNeg)]) hX (fun _ h => inM h) (fun _ h => inC h) disMC dL_law_504 lk_73 mi_X9_near rfl (t_X9_near hp) ty_78 (Nat.le_of_ble_eq_true rfl) ⟨rfl, rfl⟩ ⟨Nat.le_of_ble_eq_true rfl, Nat.le_of_ble_eq_true rfl⟩ hP2 hP hS hl.1 hkn (fun r a1 H2 locs2 hp hP2 hP hS => ?_)
  obtain ⟨hm1, v2, rfl, rfl, rfl, hI⟩ := hp
  refine lv_icmp_eq (tgt := 800) hx hb dL_law_507 (by decide) (fun _ => kk hc1 hm1 H2 locs2 hI hP hP2 hS) (fun h => absurd rfl h)
set_option maxHeartbeats 4000000 in
set_option maxRecDepth 100000 in
theorem law_c14 {p : Program} {l : Launch} {e : Env} {s : State} {m : MethodId} {below : List Frame} {meth : Method} {c : Code} {b L : Nat} {xs : Nat → Int32} {D : va_G} {cA : Nat → ClassId} {ad : Nat → Nat} {H : Heap} {locs : List Loc} {k n : Nat} {Q : State → Prop} {ls : Array Slot} {Inv : HP → HP → Prop} {hc hm : HP} {i : Int32} (hX : LX p s m c b L xs D cA ad) (hkn : k + 0 ≤ room_1.cells ∧ n + 0 ≤ room_1.slots) (hI : Inv hc hm) (hin : ∀ j : Int32, 0 ≤ j.toInt → j.toInt < 6 → vp_in (i + j) L) (hP : va_P D CL (xW cA ad (gC, SH, emb hc)) H) (hP2 : va_P D CL (xW cA ad (gM, SH, emb hm)) H) (hS : va_S (lA s) s.heap H locs) (hl : lv_has ls 4 (lL b ad i)) (kk : ∀ (hc1 hm1 : HP) (H1 : Heap) (locs1 : List Loc), Inv hc1 hm1 → va_P D CL (xW cA ad (gC, SH, emb hc1)) H1 → va_P D CL (xW cA ad (gM, SH, emb hm1)) H1 → va_S (lA s) s.heap H1 locs1 → W p l e room_1 s m #[Value.ref b] below meth c H1 locs1 k n Q (F0 m 800 ls [])) (hop : (∀ x0 x1 x2 : Int32, OpI (P_X8_given x0 x1 x2) (P_X9_given x0 x1 x2) Inv)) : W p l e room_1 s m #[Value.ref b] below meth c H locs k n Q (F0 m 512 ls []) := by
  obtain ⟨hx, hb, -⟩ := id hX
  refine lv_aload_n hx hb dL_law_512 rfl (lv_at hl 1 rfl) ?_
  refine l_arg (kx := 1) hX hS hl dL_law_513 dL_law_514 dL_law_515 dL_law_516 dL_law_517 ic_1 (hin 1 (by decide) (by decide)) ?_
  refine l_arg (kx := 2) hX hS hl dL_law_518 dL_law_519 dL_law_520 dL_law_521 dL_law_522 ic_2 (hin 2 (by decide) (by decide)) ?_
  refine l_arg (kx := 3) hX hS hl dL_law_523 dL_law_524 dL_law_525 dL_law_526 dL_law_527 ic_3 (hin 3 (by decide) (by decide)) ?_
  refine l_call (q := 0) (st := []) (avs := [.int (xs (i + 1).toNatClampNeg), .int (xs (i + 2).toNatClampNeg), .int (xs (i + 3).toNatClampNeg)]) hX (fun _ h => inC h) (fun _ h => inM h) disCM dL_law_528 lk_74 mi_X8_given rfl (t_X8_given (hop (xs (i + 1).toNatClampNeg) (xs (i + 2).toNatClampNeg) (xs (i + 3).toNatClampNeg) hc hm hI)) ty_0 (Nat.le_of_ble_eq_true rfl) ⟨rfl, rfl⟩ ⟨Nat.le_of_ble_eq_true rfl, Nat.le_of_ble_eq_true rfl⟩ hP hP2 hS hl.1 hkn (fun r a1 H1 locs1 hp hP hP2 hS => ?_)
  obtain ⟨hc1, v1, rfl, rfl, hp⟩ := hp
  refine lv_aload_n hx hb dL_law_531 rfl (lv_at hl 2 rfl) ?_
  refine l_arg (kx := 1) hX hS hl dL_law_532 dL_law_533 dL_law_534 dL_law_535 dL_law_536 ic_1 (hin 1 (by decide) (by decide)) ?_
  refine l_arg (kx := 2) hX hS hl dL_law_537 dL_law_538 dL_law_539 dL_law_540 dL_law_541 ic_2 (hin 2 (by decide) (by decide)) ?_
  refine l_arg (kx := 3) hX hS hl dL_law_542 dL_law_543 dL_law_544 dL_law_545 dL_law_546 ic_3 (hin 3 (by decide) (by decide)) ?_
  refine l_call (q := 78) (st := [.int v1]) (avs := [.int (xs (i + 1).toNatClampNeg), .int (xs (i + 2).toNatClampNeg), .int (xs (i + 3).toNatClampNeg)]) hX (fun _ h => inM h) (fun _ h => inC h) disMC dL_law_547 lk_77 mi_X9_given rfl (t_X9_given hp) ty_78 (Nat.le_of_ble_eq_true rfl) ⟨rfl, rfl⟩ ⟨Nat.le_of_ble_eq_true rfl, Nat.le_of_ble_eq_true rfl⟩ hP2 hP hS hl.1 hkn (fun r a1 H2 locs2 hp hP2 hP hS => ?_)
  obtain ⟨hm1, v2, rfl, rfl, rfl, hI⟩ := hp
  refine lv_icmp_eq (tgt := 800) hx hb dL_law_550 (by decide) (fun _ => kk hc1 hm1 H2 locs2 hI hP hP2 hS) (fun h => absurd rfl h)
set_option maxHeartbeats 4000000 in
set_option maxRecDepth 100000 in
theorem law_c15 {p : Program} {l : Launch} {e : Env} {s : State} {m : MethodId} {below : List Frame} {meth : Method} {c : Code} {b L : Nat} {xs : Nat → Int32} {D : va_G} {cA : Nat → ClassId} {ad : Nat → Nat} {H : Heap} {locs : List Loc} {k n : Nat} {Q : State → Prop} {ls : Array Slot} {Inv : HP → HP → Prop} {hc hm : HP} {i : Int32} (hX : LX p s m c b L xs D cA ad) (hkn : k + 0 ≤ room_1.cells ∧ n + 0 ≤ room_1.slots) (hI : Inv hc hm) (hin : ∀ j : Int32, 0 ≤ j.toInt → j.toInt < 6 → vp_in (i + j) L) (hP : va_P D CL (xW cA ad (gC, SH, emb hc)) H) (hP2 : va_P D CL (xW cA ad (gM, SH, emb hm)) H) (hS : va_S (lA s) s.heap H locs) (hl : lv_has ls 4 (lL b ad i)) (kk : ∀ (hc1 hm1 : HP) (H1 : Heap) (locs1 : List Loc), Inv hc1 hm1 → va_P D CL (xW cA ad (gC, SH, emb hc1)) H1 → va_P D CL (xW cA ad (gM, SH, emb hm1)) H1 → va_S (lA s) s.heap H1 locs1 → W p l e room_1 s m #[Value.ref b] below meth c H1 locs1 k n Q (F0 m 800 ls [])) (hop : (∀ x0 x1 : Int32, OpI (P_X8_far x0 x1) (P_X9_far x0 x1) Inv)) : W p l e room_1 s m #[Value.ref b] below meth c H locs k n Q (F0 m 555 ls []) := by
  obtain ⟨hx, hb, -⟩ := id hX
  refine lv_aload_n hx hb dL_law_555 rfl (lv_at hl 1 rfl) ?_
  refine l_arg (kx := 1) hX hS hl dL_law_556 dL_law_557 dL_law_558 dL_law_559 dL_law_560 ic_1 (hin 1 (by decide) (by decide)) ?_
  refine l_arg (kx := 2) hX hS hl dL_law_561 dL_law_562 dL_law_563 dL_law_564 dL_law_565 ic_2 (hin 2 (by decide) (by decide)) ?_
  refine l_call (q := 0) (st := []) (avs := [.int (xs (i + 1).toNatClampNeg), .int (xs (i + 2).toNatClampNeg)]) hX (fun _ h => inC h) (fun _ h => inM h) disCM dL_law_566 lk_78 mi_X8_far rfl (t_X8_far (hop (xs (i + 1).toNatClampNeg) (xs (i + 2).toNatClampNeg) hc hm hI)) ty_0 (Nat.le_of_ble_eq_true rfl) ⟨rfl, rfl⟩ ⟨Nat.le_of_ble_eq_true rfl, Nat.le_of_ble_eq_true rfl⟩ hP hP2 hS hl.1 hkn (fun r a1 H1 locs1 hp hP hP2 hS => ?_)
  obtain ⟨hc1, v1, rfl, rfl, hp⟩ := hp
  refine lv_aload_n hx hb dL_law_569 rfl (lv_at hl 2 rfl) ?_
  refine l_arg (kx := 1) hX hS hl dL_law_570 dL_law_571 dL_law_572 dL_law_573 dL_law_574 ic_1 (hin 1 (by decide) (by decide)) ?_
  refine l_arg (kx := 2) hX hS hl dL_law_575 dL_law_576 dL_law_577 dL_law_578 dL_law_579 ic_2 (hin 2 (by decide) (by decide)) ?_
  refine l_call (q := 78) (st := [.int v1]) (avs := [.int (xs (i + 1).toNatClampNeg), .int (xs (i + 2).toNatClampNeg)]) hX (fun _ h => inM h) (fun _ h => inC h) disMC dL_law_580 lk_81 mi_X9_far rfl (t_X9_far hp) ty_78 (Nat.le_of_ble_eq_true rfl) ⟨rfl, rfl⟩ ⟨Nat.le_of_ble_eq_true rfl, Nat.le_of_ble_eq_true rfl⟩ hP2 hP hS hl.1 hkn (fun r a1 H2 locs2 hp hP2 hP hS => ?_)
  obtain ⟨hm1, v2, rfl, rfl, rfl, hI⟩ := hp
  refine lv_icmp_eq (tgt := 800) hx hb dL_law_583 (by decide) (fun _ => kk hc1 hm1 H2 locs2 hI hP hP2 hS) (fun h => absurd rfl h)
set_option maxHeartbeats 4000000 in
set_option maxRecDepth 100000 in
theorem law_c16 {p : Program} {l : Launch} {e : Env} {s : State} {m : MethodId} {below : List Frame} {meth : Method} {c : Code} {b L : Nat} {xs : Nat → Int32} {D : va_G} {cA : Nat → ClassId} {ad : Nat → Nat} {H : Heap} {locs : List Loc} {k n : Nat} {Q : State → Prop} {ls : Array Slot} {Inv : HP → HP → Prop} {hc hm : HP} {i : Int32} (hX : LX p s m c b L xs D cA ad) (hkn : k + 0 ≤ room_1.cells ∧ n + 0 ≤ room_1.slots) (hI : Inv hc hm) (hin : ∀ j : Int32, 0 ≤ j.toInt → j.toInt < 6 → vp_in (i + j) L) (hP : va_P D CL (xW cA ad (gC, SH, emb hc)) H) (hP2 : va_P D CL (xW cA ad (gM, SH, emb hm)) H) (hS : va_S (lA s) s.heap H locs) (hl : lv_has ls 4 (lL b ad i)) (kk : ∀ (hc1 hm1 : HP) (H1 : Heap) (locs1 : List Loc), Inv hc1 hm1 → va_P D CL (xW cA ad (gC, SH, emb hc1)) H1 → va_P D CL (xW cA ad (gM, SH, emb hm1)) H1 → va_S (lA s) s.heap H1 locs1 → W p l e room_1 s m #[Value.ref b] below meth c H1 locs1 k n Q (F0 m 800 ls [])) (hop : (∀ x0 x1 : Int32, OpI (P_X8_held x0 x1) (P_X9_held x0 x1) Inv)) : W p l e room_1 s m #[Value.ref b] below meth c H locs k n Q (F0 m 588 ls []) := by
  obtain ⟨hx, hb, -⟩ := id hX
  refine lv_aload_n hx hb dL_law_588 rfl (lv_at hl 1 rfl) ?_
  refine l_arg (kx := 1) hX hS hl dL_law_589 dL_law_590 dL_law_591 dL_law_592 dL_law_593 ic_1 (hin 1 (by decide) (by decide)) ?_
  refine l_arg (kx := 2) hX hS hl dL_law_594 dL_law_595 dL_law_596 dL_law_597 dL_law_598 ic_2 (hin 2 (by decide) (by decide)) ?_
  refine l_call (q := 0) (st := []) (avs := [.int (xs (i + 1).toNatClampNeg), .int (xs (i + 2).toNatClampNeg)]) hX (fun _ h => inC h) (fun _ h => inM h) disCM dL_law_599 lk_82 mi_X8_held rfl (t_X8_held (hop (xs (i + 1).toNatClampNeg) (xs (i + 2).toNatClampNeg) hc hm hI)) ty_0 (Nat.le_of_ble_eq_true rfl) ⟨rfl, rfl⟩ ⟨Nat.le_of_ble_eq_true rfl, Nat.le_of_ble_eq_true rfl⟩ hP hP2 hS hl.1 hkn (fun r a1 H1 locs1 hp hP hP2 hS => ?_)
  obtain ⟨hc1, v1, rfl, rfl, hp⟩ := hp
  refine lv_aload_n hx hb dL_law_602 rfl (lv_at hl 2 rfl) ?_
  refine l_arg (kx := 1) hX hS hl dL_law_603 dL_law_604 dL_law_605 dL_law_606 dL_law_607 ic_1 (hin 1 (by decide) (by decide)) ?_
  refine l_arg (kx := 2) hX hS hl dL_law_608 dL_law_609 dL_law_610 dL_law_611 dL_law_612 ic_2 (hin 2 (by decide) (by decide)) ?_
  refine l_call (q := 78) (st := [.int v1]) (avs := [.int (xs (i + 1).toNatClampNeg), .int (xs (i + 2).toNatClampNeg)]) hX (fun _ h => inM h) (fun _ h => inC h) disMC dL_law_613 lk_85 mi_X9_held rfl (t_X9_held hp) ty_78 (Nat.le_of_ble_eq_true rfl) ⟨rfl, rfl⟩ ⟨Nat.le_of_ble_eq_true rfl, Nat.le_of_ble_eq_true rfl⟩ hP2 hP hS hl.1 hkn (fun r a1 H2 locs2 hp hP2 hP hS => ?_)
  obtain ⟨hm1, v2, rfl, rfl, rfl, hI⟩ := hp
  refine lv_icmp_eq (tgt := 800) hx hb dL_law_616 (by decide) (fun _ => kk hc1 hm1 H2 locs2 hI hP hP2 hS) (fun h => absurd rfl h)
set_option maxHeartbeats 4000000 in
set_option maxRecDepth 100000 in
theorem law_c17 {p : Program} {l : Launch} {e : Env} {s : State} {m : MethodId} {below : List Frame} {meth : Method} {c : Code} {b L : Nat} {xs : Nat → Int32} {D : va_G} {cA : Nat → ClassId} {ad : Nat → Nat} {H : Heap} {locs : List Loc} {k n : Nat} {Q : State → Prop} {ls : Array Slot} {Inv : HP → HP → Prop} {hc hm : HP} {i : Int32} (hX : LX p s m c b L xs D cA ad) (hkn : k + 0 ≤ room_1.cells ∧ n + 0 ≤ room_1.slots) (hI : Inv hc hm) (hin : ∀ j : Int32, 0 ≤ j.toInt → j.toInt < 6 → vp_in (i + j) L) (hP : va_P D CL (xW cA ad (gC, SH, emb hc)) H) (hP2 : va_P D CL (xW cA ad (gM, SH, emb hm)) H) (hS : va_S (lA s) s.heap H locs) (hl : lv_has ls 4 (lL b ad i)) (kk : ∀ (hc1 hm1 : HP) (H1 : Heap) (locs1 : List Loc), Inv hc1 hm1 → va_P D CL (xW cA ad (gC, SH, emb hc1)) H1 → va_P D CL (xW cA ad (gM, SH, emb hm1)) H1 → va_S (lA s) s.heap H1 locs1 → W p l e room_1 s m #[Value.ref b] below meth c H1 locs1 k n Q (F0 m 800 ls [])) (hop : (∀ x0 x1 : Int32, OpI (P_X8_as x0 x1) (P_X9_as x0 x1) Inv)) : W p l e room_1 s m #[Value.ref b] below meth c H locs k n Q (F0 m 621 ls []) := by
  obtain ⟨hx, hb, -⟩ := id hX
  refine lv_aload_n hx hb dL_law_621 rfl (lv_at hl 1 rfl) ?_
  refine l_arg (kx := 1) hX hS hl dL_law_622 dL_law_623 dL_law_624 dL_law_625 dL_law_626 ic_1 (hin 1 (by decide) (by decide)) ?_
  refine l_arg (kx := 2) hX hS hl dL_law_627 dL_law_628 dL_law_629 dL_law_630 dL_law_631 ic_2 (hin 2 (by decide) (by decide)) ?_
  refine l_call (q := 0) (st := []) (avs := [.int (xs (i + 1).toNatClampNeg), .int (xs (i + 2).toNatClampNeg)]) hX (fun _ h => inC h) (fun _ h => inM h) disCM dL_law_632 lk_86 mi_X8_as rfl (t_X8_as (hop (xs (i + 1).toNatClampNeg) (xs (i + 2).toNatClampNeg) hc hm hI)) ty_0 (Nat.le_of_ble_eq_true rfl) ⟨rfl, rfl⟩ ⟨Nat.le_of_ble_eq_true rfl, Nat.le_of_ble_eq_true rfl⟩ hP hP2 hS hl.1 hkn (fun r a1 H1 locs1 hp hP hP2 hS => ?_)
  obtain ⟨hc1, v1, rfl, rfl, hp⟩ := hp
  refine lv_aload_n hx hb dL_law_635 rfl (lv_at hl 2 rfl) ?_
  refine l_arg (kx := 1) hX hS hl dL_law_636 dL_law_637 dL_law_638 dL_law_639 dL_law_640 ic_1 (hin 1 (by decide) (by decide)) ?_
  refine l_arg (kx := 2) hX hS hl dL_law_641 dL_law_642 dL_law_643 dL_law_644 dL_law_645 ic_2 (hin 2 (by decide) (by decide)) ?_
  refine l_call (q := 78) (st := [.int v1]) (avs := [.int (xs (i + 1).toNatClampNeg), .int (xs (i + 2).toNatClampNeg)]) hX (fun _ h => inM h) (fun _ h => inC h) disMC dL_law_646 lk_89 mi_X9_as rfl (t_X9_as hp) ty_78 (Nat.le_of_ble_eq_true rfl) ⟨rfl, rfl⟩ ⟨Nat.le_of_ble_eq_true rfl, Nat.le_of_ble_eq_true rfl⟩ hP2 hP hS hl.1 hkn (fun r a1 H2 locs2 hp hP2 hP hS => ?_)
  obtain ⟨hm1, v2, rfl, rfl, rfl, hI⟩ := hp
  refine lv_icmp_eq (tgt := 800) hx hb dL_law_649 (by decide) (fun _ => kk hc1 hm1 H2 locs2 hI hP hP2 hS) (fun h => absurd rfl h)
set_option maxHeartbeats 4000000 in
set_option maxRecDepth 100000 in
theorem law_c18 {p : Program} {l : Launch} {e : Env} {s : State} {m : MethodId} {below : List Frame} {meth : Method} {c : Code} {b L : Nat} {xs : Nat → Int32} {D : va_G} {cA : Nat → ClassId} {ad : Nat → Nat} {H : Heap} {locs : List Loc} {k n : Nat} {Q : State → Prop} {ls : Array Slot} {Inv : HP → HP → Prop} {hc hm : HP} {i : Int32} (hX : LX p s m c b L xs D cA ad) (hkn : k + 0 ≤ room_1.cells ∧ n + 0 ≤ room_1.slots) (hI : Inv hc hm) (hin : ∀ j : Int32, 0 ≤ j.toInt → j.toInt < 6 → vp_in (i + j) L) (hP : va_P D CL (xW cA ad (gC, SH, emb hc)) H) (hP2 : va_P D CL (xW cA ad (gM, SH, emb hm)) H) (hS : va_S (lA s) s.heap H locs) (hl : lv_has ls 4 (lL b ad i)) (kk : ∀ (hc1 hm1 : HP) (H1 : Heap) (locs1 : List Loc), Inv hc1 hm1 → va_P D CL (xW cA ad (gC, SH, emb hc1)) H1 → va_P D CL (xW cA ad (gM, SH, emb hm1)) H1 → va_S (lA s) s.heap H1 locs1 → W p l e room_1 s m #[Value.ref b] below meth c H1 locs1 k n Q (F0 m 800 ls [])) (hop : (∀ x0 x1 : Int32, OpI (P_X8_released x0 x1) (P_X9_released x0 x1) Inv)) : W p l e room_1 s m #[Value.ref b] below meth c H locs k n Q (F0 m 654 ls []) := by
  obtain ⟨hx, hb, -⟩ := id hX
  refine lv_aload_n hx hb dL_law_654 rfl (lv_at hl 1 rfl) ?_
  refine l_arg (kx := 1) hX hS hl dL_law_655 dL_law_656 dL_law_657 dL_law_658 dL_law_659 ic_1 (hin 1 (by decide) (by decide)) ?_
  refine l_arg (kx := 2) hX hS hl dL_law_660 dL_law_661 dL_law_662 dL_law_663 dL_law_664 ic_2 (hin 2 (by decide) (by decide)) ?_
  refine l_call (q := 0) (st := []) (avs := [.int (xs (i + 1).toNatClampNeg), .int (xs (i + 2).toNatClampNeg)]) hX (fun _ h => inC h) (fun _ h => inM h) disCM dL_law_665 lk_90 mi_X8_released rfl (t_X8_released (hop (xs (i + 1).toNatClampNeg) (xs (i + 2).toNatClampNeg) hc hm hI)) ty_0 (Nat.le_of_ble_eq_true rfl) ⟨rfl, rfl⟩ ⟨Nat.le_of_ble_eq_true rfl, Nat.le_of_ble_eq_true rfl⟩ hP hP2 hS hl.1 hkn (fun r a1 H1 locs1 hp hP hP2 hS => ?_)
  obtain ⟨hc1, v1, rfl, rfl, hp⟩ := hp
  refine lv_aload_n hx hb dL_law_668 rfl (lv_at hl 2 rfl) ?_
  refine l_arg (kx := 1) hX hS hl dL_law_669 dL_law_670 dL_law_671 dL_law_672 dL_law_673 ic_1 (hin 1 (by decide) (by decide)) ?_
  refine l_arg (kx := 2) hX hS hl dL_law_674 dL_law_675 dL_law_676 dL_law_677 dL_law_678 ic_2 (hin 2 (by decide) (by decide)) ?_
  refine l_call (q := 78) (st := [.int v1]) (avs := [.int (xs (i + 1).toNatClampNeg), .int (xs (i + 2).toNatClampNeg)]) hX (fun _ h => inM h) (fun _ h => inC h) disMC dL_law_679 lk_93 mi_X9_released rfl (t_X9_released hp) ty_78 (Nat.le_of_ble_eq_true rfl) ⟨rfl, rfl⟩ ⟨Nat.le_of_ble_eq_true rfl, Nat.le_of_ble_eq_true rfl⟩ hP2 hP hS hl.1 hkn (fun r a1 H2 locs2 hp hP2 hP hS => ?_)
  obtain ⟨hm1, v2, rfl, rfl, rfl, hI⟩ := hp
  refine lv_icmp_eq (tgt := 800) hx hb dL_law_682 (by decide) (fun _ => kk hc1 hm1 H2 locs2 hI hP hP2 hS) (fun h => absurd rfl h)
set_option maxHeartbeats 4000000 in
set_option maxRecDepth 100000 in
theorem law_c19 {p : Program} {l : Launch} {e : Env} {s : State} {m : MethodId} {below : List Frame} {meth : Method} {c : Code} {b L : Nat} {xs : Nat → Int32} {D : va_G} {cA : Nat → ClassId} {ad : Nat → Nat} {H : Heap} {locs : List Loc} {k n : Nat} {Q : State → Prop} {ls : Array Slot} {Inv : HP → HP → Prop} {hc hm : HP} {i : Int32} (hX : LX p s m c b L xs D cA ad) (hkn : k + 0 ≤ room_1.cells ∧ n + 0 ≤ room_1.slots) (hI : Inv hc hm) (hin : ∀ j : Int32, 0 ≤ j.toInt → j.toInt < 6 → vp_in (i + j) L) (hP : va_P D CL (xW cA ad (gC, SH, emb hc)) H) (hP2 : va_P D CL (xW cA ad (gM, SH, emb hm)) H) (hS : va_S (lA s) s.heap H locs) (hl : lv_has ls 4 (lL b ad i)) (kk : ∀ (hc1 hm1 : HP) (H1 : Heap) (locs1 : List Loc), Inv hc1 hm1 → va_P D CL (xW cA ad (gC, SH, emb hc1)) H1 → va_P D CL (xW cA ad (gM, SH, emb hm1)) H1 → va_S (lA s) s.heap H1 locs1 → W p l e room_1 s m #[Value.ref b] below meth c H1 locs1 k n Q (F0 m 800 ls [])) (hop : (∀ x0 x1 : Int32, OpI (P_X8_under x0 x1) (P_X9_under x0 x1) Inv)) : W p l e room_1 s m #[Value.ref b] below meth c H locs k n Q (F0 m 687 ls []) := by
  obtain ⟨hx, hb, -⟩ := id hX
  refine lv_aload_n hx hb dL_law_687 rfl (lv_at hl 1 rfl) ?_
  refine l_arg (kx := 1) hX hS hl dL_law_688 dL_law_689 dL_law_690 dL_law_691 dL_law_692 ic_1 (hin 1 (by decide) (by decide)) ?_
  refine l_arg (kx := 2) hX hS hl dL_law_693 dL_law_694 dL_law_695 dL_law_696 dL_law_697 ic_2 (hin 2 (by decide) (by decide)) ?_
  refine l_call (q := 0) (st := []) (avs := [.int (xs (i + 1).toNatClampNeg), .int (xs (i + 2).toNatClampNeg)]) hX (fun _ h => inC h) (fun _ h => inM h) disCM dL_law_698 lk_94 mi_X8_under rfl (t_X8_under (hop (xs (i + 1).toNatClampNeg) (xs (i + 2).toNatClampNeg) hc hm hI)) ty_0 (Nat.le_of_ble_eq_true rfl) ⟨rfl, rfl⟩ ⟨Nat.le_of_ble_eq_true rfl, Nat.le_of_ble_eq_true rfl⟩ hP hP2 hS hl.1 hkn (fun r a1 H1 locs1 hp hP hP2 hS => ?_)
  obtain ⟨hc1, v1, rfl, rfl, hp⟩ := hp
  refine lv_aload_n hx hb dL_law_701 rfl (lv_at hl 2 rfl) ?_
  refine l_arg (kx := 1) hX hS hl dL_law_702 dL_law_703 dL_law_704 dL_law_705 dL_law_706 ic_1 (hin 1 (by decide) (by decide)) ?_
  refine l_arg (kx := 2) hX hS hl dL_law_707 dL_law_708 dL_law_709 dL_law_710 dL_law_711 ic_2 (hin 2 (by decide) (by decide)) ?_
  refine l_call (q := 78) (st := [.int v1]) (avs := [.int (xs (i + 1).toNatClampNeg), .int (xs (i + 2).toNatClampNeg)]) hX (fun _ h => inM h) (fun _ h => inC h) disMC dL_law_712 lk_97 mi_X9_under rfl (t_X9_under hp) ty_78 (Nat.le_of_ble_eq_true rfl) ⟨rfl, rfl⟩ ⟨Nat.le_of_ble_eq_true rfl, Nat.le_of_ble_eq_true rfl⟩ hP2 hP hS hl.1 hkn (fun r a1 H2 locs2 hp hP2 hP hS => ?_)
  obtain ⟨hm1, v2, rfl, rfl, rfl, hI⟩ := hp
  refine lv_icmp_eq (tgt := 800) hx hb dL_law_715 (by decide) (fun _ => kk hc1 hm1 H2 locs2 hI hP hP2 hS) (fun h => absurd rfl h)
set_option maxHeartbeats 4000000 in
set_option maxRecDepth 100000 in
theorem law_c20 {p : Program} {l : Launch} {e : Env} {s : State} {m : MethodId} {below : List Frame} {meth : Method} {c : Code} {b L : Nat} {xs : Nat → Int32} {D : va_G} {cA : Nat → ClassId} {ad : Nat → Nat} {H : Heap} {locs : List Loc} {k n : Nat} {Q : State → Prop} {ls : Array Slot} {Inv : HP → HP → Prop} {hc hm : HP} {i : Int32} (hX : LX p s m c b L xs D cA ad) (hkn : k + 0 ≤ room_1.cells ∧ n + 0 ≤ room_1.slots) (hI : Inv hc hm) (hin : ∀ j : Int32, 0 ≤ j.toInt → j.toInt < 6 → vp_in (i + j) L) (hP : va_P D CL (xW cA ad (gC, SH, emb hc)) H) (hP2 : va_P D CL (xW cA ad (gM, SH, emb hm)) H) (hS : va_S (lA s) s.heap H locs) (hl : lv_has ls 4 (lL b ad i)) (kk : ∀ (hc1 hm1 : HP) (H1 : Heap) (locs1 : List Loc), Inv hc1 hm1 → va_P D CL (xW cA ad (gC, SH, emb hc1)) H1 → va_P D CL (xW cA ad (gM, SH, emb hm1)) H1 → va_S (lA s) s.heap H1 locs1 → W p l e room_1 s m #[Value.ref b] below meth c H1 locs1 k n Q (F0 m 800 ls [])) (hop : (∀ x0 x1 x2 : Int32, OpI (P_X8_frame x0 x1 x2) (P_X9_frame x0 x1 x2) Inv)) : W p l e room_1 s m #[Value.ref b] below meth c H locs k n Q (F0 m 720 ls []) := by
  obtain ⟨hx, hb, -⟩ := id hX
  refine lv_aload_n hx hb dL_law_720 rfl (lv_at hl 1 rfl) ?_
  refine l_arg (kx := 1) hX hS hl dL_law_721 dL_law_722 dL_law_723 dL_law_724 dL_law_725 ic_1 (hin 1 (by decide) (by decide)) ?_
  refine l_arg (kx := 2) hX hS hl dL_law_726 dL_law_727 dL_law_728 dL_law_729 dL_law_730 ic_2 (hin 2 (by decide) (by decide)) ?_
  refine l_arg (kx := 3) hX hS hl dL_law_731 dL_law_732 dL_law_733 dL_law_734 dL_law_735 ic_3 (hin 3 (by decide) (by decide)) ?_
  refine l_call (q := 0) (st := []) (avs := [.int (xs (i + 1).toNatClampNeg), .int (xs (i + 2).toNatClampNeg), .int (xs (i + 3).toNatClampNeg)]) hX (fun _ h => inC h) (fun _ h => inM h) disCM dL_law_736 lk_98 mi_X8_frame rfl (t_X8_frame (hop (xs (i + 1).toNatClampNeg) (xs (i + 2).toNatClampNeg) (xs (i + 3).toNatClampNeg) hc hm hI)) ty_0 (Nat.le_of_ble_eq_true rfl) ⟨rfl, rfl⟩ ⟨Nat.le_of_ble_eq_true rfl, Nat.le_of_ble_eq_true rfl⟩ hP hP2 hS hl.1 hkn (fun r a1 H1 locs1 hp hP hP2 hS => ?_)
  obtain ⟨hc1, v1, rfl, rfl, hp⟩ := hp
  refine lv_aload_n hx hb dL_law_739 rfl (lv_at hl 2 rfl) ?_
  refine l_arg (kx := 1) hX hS hl dL_law_740 dL_law_741 dL_law_742 dL_law_743 dL_law_744 ic_1 (hin 1 (by decide) (by decide)) ?_
  refine l_arg (kx := 2) hX hS hl dL_law_745 dL_law_746 dL_law_747 dL_law_748 dL_law_749 ic_2 (hin 2 (by decide) (by decide)) ?_
  refine l_arg (kx := 3) hX hS hl dL_law_750 dL_law_751 dL_law_752 dL_law_753 dL_law_754 ic_3 (hin 3 (by decide) (by decide)) ?_
  refine l_call (q := 78) (st := [.int v1]) (avs := [.int (xs (i + 1).toNatClampNeg), .int (xs (i + 2).toNatClampNeg), .int (xs (i + 3).toNatClampNeg)]) hX (fun _ h => inM h) (fun _ h => inC h) disMC dL_law_755 lk_101 mi_X9_frame rfl (t_X9_frame hp) ty_78 (Nat.le_of_ble_eq_true rfl) ⟨rfl, rfl⟩ ⟨Nat.le_of_ble_eq_true rfl, Nat.le_of_ble_eq_true rfl⟩ hP2 hP hS hl.1 hkn (fun r a1 H2 locs2 hp hP2 hP hS => ?_)
  obtain ⟨hm1, v2, rfl, rfl, rfl, hI⟩ := hp
  refine lv_icmp_eq (tgt := 800) hx hb dL_law_758 (by decide) (fun _ => kk hc1 hm1 H2 locs2 hI hP hP2 hS) (fun h => absurd rfl h)
set_option maxHeartbeats 4000000 in
set_option maxRecDepth 100000 in
theorem law_c21 {p : Program} {l : Launch} {e : Env} {s : State} {m : MethodId} {below : List Frame} {meth : Method} {c : Code} {b L : Nat} {xs : Nat → Int32} {D : va_G} {cA : Nat → ClassId} {ad : Nat → Nat} {H : Heap} {locs : List Loc} {k n : Nat} {Q : State → Prop} {ls : Array Slot} {Inv : HP → HP → Prop} {hc hm : HP} {i : Int32} (hX : LX p s m c b L xs D cA ad) (hkn : k + 0 ≤ room_1.cells ∧ n + 0 ≤ room_1.slots) (hI : Inv hc hm) (hin : ∀ j : Int32, 0 ≤ j.toInt → j.toInt < 6 → vp_in (i + j) L) (hP : va_P D CL (xW cA ad (gC, SH, emb hc)) H) (hP2 : va_P D CL (xW cA ad (gM, SH, emb hm)) H) (hS : va_S (lA s) s.heap H locs) (hl : lv_has ls 4 (lL b ad i)) (kk : ∀ (hc1 hm1 : HP) (H1 : Heap) (locs1 : List Loc), Inv hc1 hm1 → va_P D CL (xW cA ad (gC, SH, emb hc1)) H1 → va_P D CL (xW cA ad (gM, SH, emb hm1)) H1 → va_S (lA s) s.heap H1 locs1 → W p l e room_1 s m #[Value.ref b] below meth c H1 locs1 k n Q (F0 m 800 ls [])) (hop : (∀ x0 : Int32, OpI (P_X8_count x0) (P_X9_count x0) Inv)) : W p l e room_1 s m #[Value.ref b] below meth c H locs k n Q (F0 m 763 ls []) := by
  obtain ⟨hx, hb, -⟩ := id hX
  refine lv_aload_n hx hb dL_law_763 rfl (lv_at hl 1 rfl) ?_
  refine l_arg (kx := 1) hX hS hl dL_law_764 dL_law_765 dL_law_766 dL_law_767 dL_law_768 ic_1 (hin 1 (by decide) (by decide)) ?_
  refine l_call (q := 0) (st := []) (avs := [.int (xs (i + 1).toNatClampNeg)]) hX (fun _ h => inC h) (fun _ h => inM h) disCM dL_law_769 lk_102 mi_X8_count rfl (t_X8_count (hop (xs (i + 1).toNatClampNeg) hc hm hI)) ty_0 (Nat.le_of_ble_eq_true rfl) ⟨rfl, rfl⟩ ⟨Nat.le_of_ble_eq_true rfl, Nat.le_of_ble_eq_true rfl⟩ hP hP2 hS hl.1 hkn (fun r a1 H1 locs1 hp hP hP2 hS => ?_)
  obtain ⟨hc1, v1, rfl, rfl, hp⟩ := hp
  refine lv_aload_n hx hb dL_law_772 rfl (lv_at hl 2 rfl) ?_
  refine l_arg (kx := 1) hX hS hl dL_law_773 dL_law_774 dL_law_775 dL_law_776 dL_law_777 ic_1 (hin 1 (by decide) (by decide)) ?_
  refine l_call (q := 78) (st := [.int v1]) (avs := [.int (xs (i + 1).toNatClampNeg)]) hX (fun _ h => inM h) (fun _ h => inC h) disMC dL_law_778 lk_105 mi_X9_count rfl (t_X9_count hp) ty_78 (Nat.le_of_ble_eq_true rfl) ⟨rfl, rfl⟩ ⟨Nat.le_of_ble_eq_true rfl, Nat.le_of_ble_eq_true rfl⟩ hP2 hP hS hl.1 hkn (fun r a1 H2 locs2 hp hP2 hP hS => ?_)
  obtain ⟨hm1, v2, rfl, rfl, rfl, hI⟩ := hp
  refine lv_icmp_eq (tgt := 800) hx hb dL_law_781 (by decide) (fun _ => kk hc1 hm1 H2 locs2 hI hP hP2 hS) (fun h => absurd rfl h)
set_option maxHeartbeats 4000000 in
set_option maxRecDepth 100000 in
theorem law_c22 {p : Program} {l : Launch} {e : Env} {s : State} {m : MethodId} {below : List Frame} {meth : Method} {c : Code} {b L : Nat} {xs : Nat → Int32} {D : va_G} {cA : Nat → ClassId} {ad : Nat → Nat} {H : Heap} {locs : List Loc} {k n : Nat} {Q : State → Prop} {ls : Array Slot} {Inv : HP → HP → Prop} {hc hm : HP} {i : Int32} (hX : LX p s m c b L xs D cA ad) (hkn : k + 0 ≤ room_1.cells ∧ n + 0 ≤ room_1.slots) (hI : Inv hc hm) (hin : ∀ j : Int32, 0 ≤ j.toInt → j.toInt < 6 → vp_in (i + j) L) (hP : va_P D CL (xW cA ad (gC, SH, emb hc)) H) (hP2 : va_P D CL (xW cA ad (gM, SH, emb hm)) H) (hS : va_S (lA s) s.heap H locs) (hl : lv_has ls 4 (lL b ad i)) (kk : ∀ (hc1 hm1 : HP) (H1 : Heap) (locs1 : List Loc), Inv hc1 hm1 → va_P D CL (xW cA ad (gC, SH, emb hc1)) H1 → va_P D CL (xW cA ad (gM, SH, emb hm1)) H1 → va_S (lA s) s.heap H1 locs1 → W p l e room_1 s m #[Value.ref b] below meth c H1 locs1 k n Q (F0 m 800 ls [])) (hop : (OpL (P_X8_digest ) (P_X9_digest ) Inv)) : W p l e room_1 s m #[Value.ref b] below meth c H locs k n Q (F0 m 786 ls []) := by
  obtain ⟨hx, hb, -⟩ := id hX
  refine lv_aload_n hx hb dL_law_786 rfl (lv_at hl 1 rfl) ?_
  refine l_call (q := 0) (st := []) (avs := []) hX (fun _ h => inC h) (fun _ h => inM h) disCM dL_law_787 lk_106 mi_X8_digest rfl (t_X8_digest (hop hc hm hI)) ty_0 (Nat.le_of_ble_eq_true rfl) ⟨rfl, rfl⟩ ⟨Nat.le_of_ble_eq_true rfl, Nat.le_of_ble_eq_true rfl⟩ hP hP2 hS hl.1 hkn (fun r a1 H1 locs1 hp hP hP2 hS => ?_)
  obtain ⟨hc1, v1, rfl, rfl, hp⟩ := hp
  refine lv_aload_n hx hb dL_law_790 rfl (lv_at hl 2 rfl) ?_
  refine l_call (q := 78) (st := [.long v1]) (avs := []) hX (fun _ h => inM h) (fun _ h => inC h) disMC dL_law_791 lk_110 mi_X9_digest rfl (t_X9_digest hp) ty_78 (Nat.le_of_ble_eq_true rfl) ⟨rfl, rfl⟩ ⟨Nat.le_of_ble_eq_true rfl, Nat.le_of_ble_eq_true rfl⟩ hP2 hP hS hl.1 hkn (fun r a1 H2 locs2 hp hP2 hP hS => ?_)
  obtain ⟨hm1, v2, rfl, rfl, rfl, hI⟩ := hp
  refine W.lcmp hx hb dL_law_794 ?_
  refine lv_if_eq (tgt := 800) hx hb dL_law_795 (by decide) (fun _ => kk hc1 hm1 H2 locs2 hI hP hP2 hS) (fun h => absurd (lg_self v1) h)
theorem sub6 {L : Nat} (h : L ≤ 3072) : (nI L - 6).toInt = (L : Int) - 6 := by
  rw [show (6 : Int32) = nI 6 from rfl, pk_sub_toInt (by omega) (by omega)]
  rfl
set_option maxHeartbeats 4000000 in
set_option maxRecDepth 100000 in
theorem law_loop {p : Program} {l : Launch} {e : Env} {s : State} {m : MethodId} {below : List Frame} {meth : Method} {c : Code} {b L : Nat} {xs : Nat → Int32} {D : va_G} {cA : Nat → ClassId} {ad : Nat → Nat} {Inv : HP → HP → Prop} (hL : L ≤ 3072) (hr : meth.sig.returnType = ret) (hlocks : meth.locks = false) (hX : LX p s m c b L xs D cA ad) (hops : OPS Inv) :
    ∀ (N j : Nat) (hc hm : HP) (H : Heap) (locs : List Loc) (ls : Array Slot), L + 1 ≤ j + N → j ≤ L + 6 → Inv hc hm → va_P D CL (xW cA ad (gC, SH, emb hc)) H → va_P D CL (xW cA ad (gM, SH, emb hm)) H → va_S (lA s) s.heap H locs → lv_has ls 4 (lL b ad (nI j)) → W p l e room_1 s m #[Value.ref b] below meth c H locs 115 3264 (lw_Z below #[Value.ref b] s) (F0 m 18 ls []) := by
  obtain ⟨hx, hb, -, -, -, -, -, -, hXs, hbl⟩ := id hX
  obtain ⟨o0, o1, o2, o3, o4, o5, o6, o7, o8, o9, o10, o11, o12, o13, o14, o15, o16, o17, o18, o19, o20, o21, o22⟩ := hops
  have hfin : ∀ (H : Heap) (locs : List Loc) (ls : Array Slot), va_S (lA s) s.heap H locs → W p l e room_1 s m #[Value.ref b] below meth c H locs 115 3264 (lw_Z below #[Value.ref b] s) (F0 m 806 ls []) := by
    intro H locs ls hS
    refine lv_iconst (v := 1) hx hb dL_law_806 (by decide) ?_
    refine va_forget (fun q hq => hS.2.2 q hq) ?_
    refine W.widen (k := 600000) (n := 7302250) (Nat.le_of_ble_eq_true rfl) (Nat.le_of_ble_eq_true rfl) ?_
    exact lw_ret hx hb hr hlocks dL_law_807
  intro N
  induction N with
  | zero =>
    intro j hc hm H locs ls h1 h2 hI hP hP2 hS hl
    refine lv_iload_n hx hb dL_law_18 rfl (lv_at hl 3 rfl) ?_
    refine lv_aload_n hx hb dL_law_19 rfl (lv_at hl 0 rfl) ?_
    refine va_slen hx hb hXs hbl (Nat.not_le.mpr hbl) hS dL_law_20 ?_
    refine lv_bipush (v := 6) hx hb dL_law_21 (by decide) ?_
    refine lv_isub hx hb dL_law_23 ?_
    refine lv_icmp_gt (tgt := 806) hx hb dL_law_24 (by decide) (fun _ => hfin H locs ls hS) (fun h => ?_)
    refine absurd ?_ h
    show nI L - 6 < nI j
    rw [Int32.lt_iff_toInt_lt, sub6 hL, nI_toInt (by omega)]
    omega
  | succ N ih =>
    intro j hc hm H locs ls h1 h2 hI hP hP2 hS hl
    refine lv_iload_n hx hb dL_law_18 rfl (lv_at hl 3 rfl) ?_
    refine lv_aload_n hx hb dL_law_19 rfl (lv_at hl 0 rfl) ?_
    refine va_slen hx hb hXs hbl (Nat.not_le.mpr hbl) hS dL_law_20 ?_
    refine lv_bipush (v := 6) hx hb dL_law_21 (by decide) ?_
    refine lv_isub hx hb dL_law_23 ?_
    refine lv_icmp_gt (tgt := 806) hx hb dL_law_24 (by decide) (fun _ => hfin H locs ls hS) (fun h => ?_)
    have hj : j + 6 ≤ L := by
      have h' : ¬ nI L - 6 < nI j := h
      rw [Int32.lt_iff_toInt_lt, sub6 hL, nI_toInt (by omega)] at h'
      omega
    have hin : ∀ z : Int32, 0 ≤ z.toInt → z.toInt < 6 → vp_in (nI j + z) L := by
      intro z z1 z2
      obtain ⟨w, hw, rfl⟩ := nI_of (x := z) (by rw [Int32.lt_iff_toInt_lt]; simpa using z1)
      rw [nI_toInt hw] at z2
      rw [nI_add]
      exact vp_in_nI (by omega) (by omega)
    have hk8 : ∀ (hc1 hm1 : HP) (H1 : Heap) (locs1 : List Loc), Inv hc1 hm1 → va_P D CL (xW cA ad (gC, SH, emb hc1)) H1 → va_P D CL (xW cA ad (gM, SH, emb hm1)) H1 → va_S (lA s) s.heap H1 locs1 → W p l e room_1 s m #[Value.ref b] below meth c H1 locs1 115 3264 (lw_Z below #[Value.ref b] s) (F0 m 800 ls []) := by
      intro hc1 hm1 H1 locs1 hI1 hP1 hP21 hS1
      refine lv_iinc (v := nI (j + 6)) (lv' := [(3, .int (nI (j + 6))), (0, .ref b), (1, .ref (ad 0)), (2, .ref (ad 78))]) hx hb dL_law_800 hl (k := 3) rfl (by rw [← nI_add]; rfl) (by decide) rfl (fun ls2 hl2 => ?_)
      refine lv_goto (tgt := 18) hx hb dL_law_803 (by decide) ?_
      exact ih (j + 6) hc1 hm1 H1 locs1 ls2 (by omega) (by omega) hI1 hP1 hP21 hS1 (lv_sub hl2 [1, 2, 3, 0] rfl)
    refine lv_aload_n hx hb dL_law_27 rfl (lv_at hl 0 rfl) ?_
    refine lv_iload_n hx hb dL_law_28 rfl (lv_at hl 3 rfl) ?_
    refine va_sld hx hb hXs hbl (Nat.not_le.mpr hbl) hS (vp_in_nI (show j < L by omega) (by omega)) dL_law_29 ?_
    refine lv_bipush (v := 31) hx hb dL_law_30 (by decide) ?_
    refine lv_iand hx hb dL_law_32 ?_
    refine l_tsw (tgt := 800) hx hb dL_law_33 [140, 163, 176, 189, 202, 265, 288, 331, 354, 377, 410, 433, 456, 479, 512, 555, 588, 621, 654, 687, 720, 763, 786] (by decide) (by decide) (by decide) (fun _ => hk8 hc hm H locs hI hP hP2 hS) (fun i t hi => ?_)
    match i, hi with
    | 0, hi => cases hi; exact law_c0 hX ⟨Nat.le_of_ble_eq_true rfl, Nat.le_of_ble_eq_true rfl⟩ hI hin hP hP2 hS hl hk8 o0
    | 1, hi => cases hi; exact law_c1 hX ⟨Nat.le_of_ble_eq_true rfl, Nat.le_of_ble_eq_true rfl⟩ hI hin hP hP2 hS hl hk8 o1
    | 2, hi => cases hi; exact law_c2 hX ⟨Nat.le_of_ble_eq_true rfl, Nat.le_of_ble_eq_true rfl⟩ hI hin hP hP2 hS hl hk8 o2
    | 3, hi => cases hi; exact law_c3 hX ⟨Nat.le_of_ble_eq_true rfl, Nat.le_of_ble_eq_true rfl⟩ hI hin hP hP2 hS hl hk8 o3
    | 4, hi => cases hi; exact law_c4 hX ⟨Nat.le_of_ble_eq_true rfl, Nat.le_of_ble_eq_true rfl⟩ hI hin hP hP2 hS hl hk8 o4
    | 5, hi => cases hi; exact law_c5 hX ⟨Nat.le_of_ble_eq_true rfl, Nat.le_of_ble_eq_true rfl⟩ hI hin hP hP2 hS hl hk8 o5
    | 6, hi => cases hi; exact law_c6 hX ⟨Nat.le_of_ble_eq_true rfl, Nat.le_of_ble_eq_true rfl⟩ hI hin hP hP2 hS hl hk8 o6
    | 7, hi => cases hi; exact law_c7 hX ⟨Nat.le_of_ble_eq_true rfl, Nat.le_of_ble_eq_true rfl⟩ hI hin hP hP2 hS hl hk8 o7
    | 8, hi => cases hi; exact law_c8 hX ⟨Nat.le_of_ble_eq_true rfl, Nat.le_of_ble_eq_true rfl⟩ hI hin hP hP2 hS hl hk8 o8
    | 9, hi => cases hi; exact law_c9 hX ⟨Nat.le_of_ble_eq_true rfl, Nat.le_of_ble_eq_true rfl⟩ hI hin hP hP2 hS hl hk8 o9
    | 10, hi => cases hi; exact law_c10 hX ⟨Nat.le_of_ble_eq_true rfl, Nat.le_of_ble_eq_true rfl⟩ hI hin hP hP2 hS hl hk8 o10
    | 11, hi => cases hi; exact law_c11 hX ⟨Nat.le_of_ble_eq_true rfl, Nat.le_of_ble_eq_true rfl⟩ hI hin hP hP2 hS hl hk8 o11
    | 12, hi => cases hi; exact law_c12 hX ⟨Nat.le_of_ble_eq_true rfl, Nat.le_of_ble_eq_true rfl⟩ hI hin hP hP2 hS hl hk8 o12
    | 13, hi => cases hi; exact law_c13 hX ⟨Nat.le_of_ble_eq_true rfl, Nat.le_of_ble_eq_true rfl⟩ hI hin hP hP2 hS hl hk8 o13
    | 14, hi => cases hi; exact law_c14 hX ⟨Nat.le_of_ble_eq_true rfl, Nat.le_of_ble_eq_true rfl⟩ hI hin hP hP2 hS hl hk8 o14
    | 15, hi => cases hi; exact law_c15 hX ⟨Nat.le_of_ble_eq_true rfl, Nat.le_of_ble_eq_true rfl⟩ hI hin hP hP2 hS hl hk8 o15
    | 16, hi => cases hi; exact law_c16 hX ⟨Nat.le_of_ble_eq_true rfl, Nat.le_of_ble_eq_true rfl⟩ hI hin hP hP2 hS hl hk8 o16
    | 17, hi => cases hi; exact law_c17 hX ⟨Nat.le_of_ble_eq_true rfl, Nat.le_of_ble_eq_true rfl⟩ hI hin hP hP2 hS hl hk8 o17
    | 18, hi => cases hi; exact law_c18 hX ⟨Nat.le_of_ble_eq_true rfl, Nat.le_of_ble_eq_true rfl⟩ hI hin hP hP2 hS hl hk8 o18
    | 19, hi => cases hi; exact law_c19 hX ⟨Nat.le_of_ble_eq_true rfl, Nat.le_of_ble_eq_true rfl⟩ hI hin hP hP2 hS hl hk8 o19
    | 20, hi => cases hi; exact law_c20 hX ⟨Nat.le_of_ble_eq_true rfl, Nat.le_of_ble_eq_true rfl⟩ hI hin hP hP2 hS hl hk8 o20
    | 21, hi => cases hi; exact law_c21 hX ⟨Nat.le_of_ble_eq_true rfl, Nat.le_of_ble_eq_true rfl⟩ hI hin hP hP2 hS hl hk8 o21
    | 22, hi => cases hi; exact law_c22 hX ⟨Nat.le_of_ble_eq_true rfl, Nat.le_of_ble_eq_true rfl⟩ hI hin hP hP2 hS hl hk8 o22
    | i + 23, hi => exact absurd hi (by simp)
