/-- the contents right behind the constructors -/
def hz0 : HP := ((fun _ _ => 0), (fun j => 7 + 5 * j), 0)
theorem arrV_congr {cA : ClassId} {n : Nat} {f g : Nat → Value} (h : ∀ j, j < n → f j = g j) : arrV cA n f = arrV cA n g := by
  unfold arrV
  congr 1
  apply Array.ext
  · simp
  · intro i h1 h2
    have h3 : i < n := by simpa using h1
    simp [h i h3]
theorem conv {D : va_G} {cA : Nat → ClassId} {ad : Nat → Nat} {H : Heap} {sh : Nat → Nat × Nat} {hr : Nat → Nat → Option Nat} {g : Nat × Nat} (hg : ∀ i, xIn g i → xIn gA i) (h1 : ∀ q, q < gA.2 → sh q = SH q)
    (h2 : ∀ q, q < gA.2 → ((SH q).1 < 20 → ∀ j, j < NF (SH q).1 → FT (SH q).1 j = 1 → hr q j = some (HR q j) ∧ q ≠ 6) ∧ (22 ≤ (SH q).1 → ∀ j, j < (SH q).2 → hr q j = (emb hz0).2.1 q j))
    (hP : va_P D CL (xW cA ad (zw 0 gA.2 sh hr)) H) : va_P D CL (xW cA ad (g, SH, emb hz0)) H := by
  intro i x hi
  obtain ⟨j1, j2⟩ := xW_of hi
  subst j2
  have hq := hg (g.1 + i) ⟨Nat.le_add_right _ _, Nat.add_lt_add_left j1 _⟩
  show va_at D CL (ad (g.1 + i), xE cA ad SH (emb hz0) (g.1 + i)) H
  generalize g.1 + i = q at hq ⊢
  have hlt : q < gA.2 := by have := hq.2; simpa using this
  have old := hP _ _ (xW_at (cA := cA) (ad := ad) (w := zw 0 gA.2 sh hr) hq)
  obtain ⟨h3, h4⟩ := h2 q hlt
  have e1 := h1 q hlt
  by_cases hk : (SH q).1 < 20
  · have e2 : xE cA ad SH (emb hz0) q = xE cA ad sh (zg hr) q := by
      unfold xE
      rw [e1, if_pos hk, if_pos hk]
      congr 2
      apply List.map_congr_left
      intro j hj
      have hj' := List.mem_range.mp hj
      unfold fvl
      split
      · rename_i ht
        obtain ⟨a1, a2⟩ := h3 hk j hj' ht
        show va_re ad (if q = 6 then _ else _) = va_re ad (hr q j)
        rw [if_neg a2, a1]
      · show Value.long (if _ then _ else _) = Value.long 0
        congr 1
        split <;> rfl
      · rfl
    rw [e2]
    exact old
  · by_cases hk2 : (SH q).1 < 22
    · have e2 : xE cA ad SH (emb hz0) q = xE cA ad sh (zg hr) q := by
        unfold xE
        rw [e1, if_neg hk, if_neg hk, if_pos hk2, if_pos hk2]
        rfl
      rw [e2]
      exact old
    · have e2 : xE cA ad SH (emb hz0) q = .inl (cA (SH q).1, (SH q).2, .inr (.inr (.inr (.inr (fun j => ((emb hz0).2.1 q j).map ad))))) := by
        unfold xE
        rw [if_neg hk, if_neg hk2]
      have e3 : xE cA ad sh (zg hr) q = .inl (cA (SH q).1, (SH q).2, .inr (.inr (.inr (.inr (fun j => (hr q j).map ad))))) := by
        unfold xE
        rw [e1, if_neg hk, if_neg hk2]
        rfl
      rw [e2]
      have old' : H[ad q]? = some (vp_cell (cA (SH q).1) ((SH q).2, .inr (.inr (.inr (.inr (fun j => (hr q j).map ad)))))) := by
        have := old
        rw [show (zw 0 gA.2 sh hr).2.1 = sh from rfl, show (zw 0 gA.2 sh hr).2.2 = zg hr from rfl, e3] at this
        exact this
      show H[ad q]? = some (vp_cell (cA (SH q).1) ((SH q).2, .inr (.inr (.inr (.inr (fun j => ((emb hz0).2.1 q j).map ad))))))
      rw [old', vp_cell_q, vp_cell_q]
      congr 1
      apply arrV_congr
      intro j hj
      rw [h4 (by omega) j hj]
def chkR (hr : Nat → Nat → Option Nat) : Bool := (List.range gA.2).all (fun q => (if (SH q).1 < 20 then (List.range (NF (SH q).1)).all (fun j => if FT (SH q).1 j = 1 then (decide (hr q j = some (HR q j)) && decide (q ≠ 6)) else true) else true) && (if 22 ≤ (SH q).1 then (List.range (SH q).2).all (fun j => decide (hr q j = (emb hz0).2.1 q j)) else true))
theorem chkR_ok {hr : Nat → Nat → Option Nat} (h : chkR hr = true) : ∀ q, q < gA.2 → ((SH q).1 < 20 → ∀ j, j < NF (SH q).1 → FT (SH q).1 j = 1 → hr q j = some (HR q j) ∧ q ≠ 6) ∧ (22 ≤ (SH q).1 → ∀ j, j < (SH q).2 → hr q j = (emb hz0).2.1 q j) := by
  intro q hq
  have h1 := List.all_eq_true.mp h q (List.mem_range.mpr hq)
  rw [Bool.and_eq_true] at h1
  refine ⟨fun hk j hj hf => ?_, fun hk j hj => ?_⟩
  · have h2 := h1.1
    rw [if_pos hk] at h2
    have h3 := List.all_eq_true.mp h2 j (List.mem_range.mpr hj)
    simp only [hf, if_true, Bool.and_eq_true, decide_eq_true_eq] at h3
    exact h3
  · have h2 := h1.2
    rw [if_pos hk] at h2
    have h3 := List.all_eq_true.mp h2 j (List.mem_range.mpr hj)
    exact of_decide_eq_true h3
theorem xK_of {b : Nat} {s : State} (hts : ∀ w ∈ lw_tbl, w.before #[Value.ref b] s = true) : ∃ (D : va_G) (cA : Nat → ClassId), xK D cA s := by
  have hB : ∀ w ∈ BIG, w.before #[Value.ref b] s = true := fun w h => hts w (List.mem_filter.mp h).1
  have hin : ∀ ci, ci < 10 → Cond.instantiable (RRf ci) (NF ci) ∈ BIG := by
    intro ci h
    rcases (show ci = 0 ∨ ci = 1 ∨ ci = 2 ∨ ci = 3 ∨ ci = 4 ∨ ci = 5 ∨ ci = 6 ∨ ci = 7 ∨ ci = 8 ∨ ci = 9 by omega) with rfl | rfl | rfl | rfl | rfl | rfl | rfl | rfl | rfl | rfl
    · exact in_0
    · exact in_1
    · exact in_2
    · exact in_3
    · exact in_4
    · exact in_5
    · exact in_6
    · exact in_7
    · exact in_8
    · exact in_9
  have hKn : ∀ ci : Nat, ∃ q : ClassId × (Nat → Nat), ci < 10 → u_Kn s (RRf ci) (TTf ci) (NF ci) q.1 q.2 := by
    intro ci
    by_cases h : ci < 10
    · obtain ⟨cC, iS, hk⟩ := u_known hB (cl_w h) (hB _ (hin ci h))
      exact ⟨(cC, iS), fun _ => hk⟩
    · obtain ⟨cC, iS, hk⟩ := u_known hB (cl_w (ci := 0) (by decide)) (hB _ (hin 0 (by decide)))
      exact ⟨(cC, iS), fun z => absurd z h⟩
  obtain ⟨f, hf⟩ := Classical.axiomOfChoice hKn
  obtain ⟨cI, kI, coI, a1, a2, a3⟩ := Cond.arrayClass_spec (hB _ ar_i)
  obtain ⟨cZ, kZ, coZ, b1, b2, b3⟩ := Cond.arrayClass_spec (hB _ ar_z)
  have ao : ∀ C : String, Cond.arrayOver (.object C) ∈ lw_tbl → va_AO C s := fun C h => hts _ h
  have ho1 : va_AO RX1 s := ao RX1 (by decide +kernel)
  have ho2 : va_AO RX2 s := ao RX2 (by decide +kernel)
  have ho3 : va_AO RX3 s := ao RX3 (by decide +kernel)
  obtain ⟨p1, c1, k1, d1, -, d3, d4, d5⟩ := Cond.arrayOver_spec ho1
  obtain ⟨p2, c2, k2, e1, -, e3, e4, e5⟩ := Cond.arrayOver_spec ho2
  obtain ⟨p3, c3, k3, f1, -, f3, f4, f5⟩ := Cond.arrayOver_spec ho3
  refine ⟨(fun k => (f k).1, fun k => (f k).2), fun k => if k = 20 then cI else if k = 21 then cZ else if k = 23 then c1 else if k = 24 then c2 else c3, ⟨fun ci q hq => ?_, fun k q hq => ?_⟩, fun w hw => ?_, ho1, ho2, ho3⟩
  · have hlt : ci < 10 := by
      have := (List.getElem?_eq_some_iff.mp hq).1
      simpa [CL] using this
    have h := hf ci hlt
    rw [cl_at hlt] at hq
    cases hq
    exact h
  · match k, hq with
    | 0, hq => cases hq; exact ⟨fun n z => ⟨fun k h => (by cases h), kI, a2, coI, a3⟩, a1⟩
    | 1, hq => cases hq; exact ⟨fun n z => ⟨fun k h => (by cases h), kZ, b2, coZ, b3⟩, b1⟩
    | 2, hq => cases hq; exact ⟨fun n z => ⟨fun k h => (by cases h), k1, d3, p1, d4⟩, k1, p1, d3, d4, d1, d5⟩
    | 3, hq => cases hq; exact ⟨fun n z => ⟨fun k h => (by cases h), k2, e3, p2, e4⟩, k2, p2, e3, e4, e1, e5⟩
    | 4, hq => cases hq; exact ⟨fun n z => ⟨fun k h => (by cases h), k3, f3, p3, f4⟩, k3, p3, f3, f4, f1, f5⟩
    | k + 5, hq => simp [tyA] at hq
  · have hn := (List.mem_filter.mp hw).2
    have h6 := hts w (List.mem_filter.mp hw).1
    cases w <;> first | exact va_Nw.of rfl h6 | (simp [isNest] at hn)
theorem xSt_of {b : Nat} {s : State} (hts : ∀ w ∈ lw_tbl, w.before #[Value.ref b] s = true) (hgv : (Jvm.Cond.and given_1 narrow_1).before #[Value.ref b] s = true) : ∃ t1 t2 : Nat, ∀ ad : Nat → Nat, ad 900 = t1 → ad 901 = t2 → xSt ad (lA s) s s.heap := by
  have hf := flat_of_before _ hgv
  have hA : ∀ a : Nat, a < s.heap.size → ¬ lA s a := fun a h z => by have z' : s.heap.size ≤ a := z; omega
  have el : ∀ (nm : String) (j v : Int32), Cond.eq (.elem (.static "BoundFrames$Page" nm "[I") (.int j)) (.int v) ∈ flatC (Jvm.Cond.and given_1 narrow_1) → (Term.elem (.static "BoundFrames$Page" nm "[I") (.int j)).eval #[Value.ref b] s none [] s = some (.int v) := fun nm j v h => va_eqt (hf _ h)
  obtain ⟨t1, g1, g2⟩ := va_Tof (N := 7) (f := fLow) (A := lA s) (by decide) (hf (Cond.arrayOf (.static "BoundFrames$Page" "LOWEST" "[I") .int) (by decide +kernel)) (va_eqt (hf (Cond.eq (.length (.static "BoundFrames$Page" "LOWEST" "[I")) (.int 7)) (by decide +kernel))) (fun j hj => by
    rcases (show j = 0 ∨ j = 1 ∨ j = 2 ∨ j = 3 ∨ j = 4 ∨ j = 5 ∨ j = 6 by omega) with rfl | rfl | rfl | rfl | rfl | rfl | rfl
    · exact el "LOWEST" 0 49 (by decide +kernel)
    · exact el "LOWEST" 1 43 (by decide +kernel)
    · exact el "LOWEST" 2 48 (by decide +kernel)
    · exact el "LOWEST" 3 42 (by decide +kernel)
    · exact el "LOWEST" 4 49 (by decide +kernel)
    · exact el "LOWEST" 5 58 (by decide +kernel)
    · exact el "LOWEST" 6 49 (by decide +kernel)) hA
  obtain ⟨t2, g3, g4⟩ := va_Tof (N := 7) (f := fHigh) (A := lA s) (by decide) (hf (Cond.arrayOf (.static "BoundFrames$Page" "HIGHEST" "[I") .int) (by decide +kernel)) (va_eqt (hf (Cond.eq (.length (.static "BoundFrames$Page" "HIGHEST" "[I")) (.int 7)) (by decide +kernel))) (fun j hj => by
    rcases (show j = 0 ∨ j = 1 ∨ j = 2 ∨ j = 3 ∨ j = 4 ∨ j = 5 ∨ j = 6 by omega) with rfl | rfl | rfl | rfl | rfl | rfl | rfl
    · exact el "HIGHEST" 0 57 (by decide +kernel)
    · exact el "HIGHEST" 1 43 (by decide +kernel)
    · exact el "HIGHEST" 2 57 (by decide +kernel)
    · exact el "HIGHEST" 3 42 (by decide +kernel)
    · exact el "HIGHEST" 4 57 (by decide +kernel)
    · exact el "HIGHEST" 5 58 (by decide +kernel)
    · exact el "HIGHEST" 6 56 (by decide +kernel)) hA
  have hini := hts (Cond.initialized "BoundFrames$Page") (by decide +kernel)
  have z1 := va_Zref (A := lA s) (hts (Cond.laysStatic "BoundFrames$Page" "LOWEST" "[I") (by decide +kernel)) hini g1 hA
  have z2 := va_Zref (A := lA s) (hts (Cond.laysStatic "BoundFrames$Page" "HIGHEST" "[I") (by decide +kernel)) hini g3 hA
  refine ⟨t1, t2, fun ad h1 h2 => ?_⟩
  unfold xSt
  rw [h1, h2]
  exact ⟨⟨z1, g2⟩, z2, g4⟩
set_option maxHeartbeats 4000000 in
set_option maxRecDepth 100000 in
theorem whole_of {Inv : HP → HP → Prop} (hI0 : Inv hz0 hz0) (hops : OPS Inv) {p : Program} {e : Env} {s : State} {m : MethodId} {below : List Frame} {meth : Method} {c : Code} (l : Launch) {b L : Nat} {xs : Nat → Int32} (hL : L ≤ 3072) (C0 : lw_At p s m meth c b L xs) : W p l e room_1 s m #[Value.ref b] below meth c s.heap [] 0 0 (lw_Z below #[Value.ref b] s) (entryFrame m ([Value.ref b] : List Value).toArray 4) := by
  obtain ⟨hx, hb, hr, hml, hown, hts, hX, hbl, hlocks, hgv⟩ := C0
  have hB : ∀ w ∈ BIG, w.before #[Value.ref b] s = true := fun w h => hts w (List.mem_filter.mp h).1
  obtain ⟨D, cA, hK⟩ := xK_of hts
  obtain ⟨t1, t2, hst⟩ := xSt_of hts hgv
  have key : ∀ C : Cx, C = (p, l, e, room_1, s, m, #[Value.ref b], below, meth, c, D, cA, lA s, 4, (fun ad => ad 900 = t1 ∧ ad 901 = t2 ∧ ad 902 = b), lw_Z below #[Value.ref b] s) → KW C 0 0 [(0, .ref 902)] [] 0 (fun _ => (99, 0)) (fun _ _ => none) 0 0 := by
    intro C hCe
    have hC : xOk C code R_law 4 room_1 ret := by
      subst hCe
      exact ⟨hx, hb, ⟨hml, rfl⟩, hown, hB, hK, fun _ h => h, hlocks, rfl, hr⟩
    have hg : ∀ n, xGr C n := by
      subst hCe
      intro n ad ad' h1 h2
      exact ⟨by rw [h1 900 (Or.inr (by omega))]; exact h2.1, by rw [h1 901 (Or.inr (by omega))]; exact h2.2.1, by rw [h1 902 (Or.inr (by omega))]; exact h2.2.2⟩
    have hw : WFr (fun _ _ => none) 0 := fun x j r h => by cases h
    refine c_newE (m2 := 1) (q := 0) (k2 := 1) (n2 := 6) (ci := 8) rfl rfl rfl rfl hC dL_law_0 lc_7 in_8 ii_8 (by decide) (by decide) hw (ok_9 (by decide) ok_nil) (hg _) (Nat.le_of_ble_eq_true rfl) (Nat.le_of_ble_eq_true rfl) ?_
    refine x_dup hC dL_law_3 rfl ?_
    refine c_callI (mc := 77) (ms := 937) (avs := []) (st := [.ref 0]) hC dL_law_4 lk_9 mj_X8_init rfl t_X8_init (ok_9 (by decide) (ok_r (by decide) ok_nil)) (hg _) (Nat.le_of_ble_eq_true rfl) ⟨rfl, rfl⟩ ⟨Nat.le_of_ble_eq_true rfl, Nat.le_of_ble_eq_true rfl⟩ ⟨Nat.le_of_ble_eq_true rfl, Nat.le_of_ble_eq_true rfl⟩ (fun sh1 hr1 hp => ?_)
    obtain ⟨rfl, rfl, hw⟩ := hp
    refine W0 (m2 := 78) (k2 := 78) (n2 := 943) rfl rfl rfl ?_
    refine x_astore_n (lv' := [(1, .ref 0), (0, .ref 902)]) hC dL_law_7 (by decide) rfl ?_
    refine c_newE (m2 := 79) (q := 78) (k2 := 79) (n2 := 992) (ci := 9) rfl rfl rfl rfl hC dL_law_8 lc_10 in_9 ii_9 (by decide) (by decide) hw (ok_r (by decide) (ok_9 (by decide) ok_nil)) (hg _) (Nat.le_of_ble_eq_true rfl) (Nat.le_of_ble_eq_true rfl) ?_
    refine x_dup hC dL_law_11 rfl ?_
    refine c_callI (mc := 36) (ms := 2272) (avs := []) (st := [.ref 78]) hC dL_law_12 lk_12 mj_X9_init rfl (t_X9_init (m := 79) (q0 := 78) (by decide) vn (by decide) hw.clr) (ok_r (by decide) (ok_9 (by decide) (ok_r (by decide) ok_nil))) (hg _) (Nat.le_of_ble_eq_true rfl) ⟨rfl, rfl⟩ ⟨Nat.le_of_ble_eq_true rfl, Nat.le_of_ble_eq_true rfl⟩ ⟨Nat.le_of_ble_eq_true rfl, Nat.le_of_ble_eq_true rfl⟩ (fun sh2 hr2 hp => ?_)
    obtain ⟨hs2, hh2, hw2⟩ := hp
    have n3 : ∀ q, q < 115 → sh2 q = SH q := by rw [hs2]; decide +kernel
    have n4 : chkR hr2 = true := by rw [hh2]; decide +kernel
    have n4 := chkR_ok n4
    clear hs2 hh2
    refine W0 (m2 := 115) (k2 := 115) (n2 := 3264) rfl rfl rfl ?_
    refine x_astore_n (lv' := [(2, .ref 78), (1, .ref 0), (0, .ref 902)]) hC dL_law_15 (by decide) rfl ?_
    refine x_iconst hC dL_law_16 ic_0 ?_
    refine x_istore_n (lv' := [(3, .int 0), (2, .ref 78), (1, .ref 0), (0, .ref 902)]) hC dL_law_17 (by decide) rfl ?_
    subst hCe
    intro ad H locs ls hG hT hP hA hS hl
    have hl' : lv_has ls 4 (lL b ad (nI 0)) := by
      refine lv_sub hl [3, 2, 1, 0] ?_
      show [(0, Value.ref (ad 902)), (1, Value.ref (ad 0)), (2, Value.ref (ad 78)), (3, Value.int 0)] = _
      rw [hG.2.2]
      rfl
    exact law_loop hL hr hlocks ⟨hx, hb, hml, hown, hB, hK, hT, hA, hX, hbl⟩ hops (L + 1) 0 hz0 hz0 H locs ls (by omega) (by omega) hI0 (conv (fun _ h => inC h) n3 n4 hP) (conv (fun _ h => inM h) n3 n4 hP) hS hl'
  have hl := lv_entry ([.ref b]) (n := 4) (Nat.le_of_ble_eq_true rfl)
  rw [lg_entry_eq]
  exact key _ rfl (fun i => if i = 900 then t1 else if i = 901 then t2 else b) s.heap [] _ ⟨rfl, rfl, rfl⟩ (hst _ rfl rfl) (fun k q h => by simp [xW] at h) ⟨fun i j hi => absurd hi.2 (by simp), fun i hi => absurd hi.2 (by simp)⟩ va_S.rf hl
