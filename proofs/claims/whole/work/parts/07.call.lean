/-! Contracts of methods that make no cells; calls; ends. -/
/-- what a method's start is: its arguments, the world, the tables -/
def xPc (D : va_G) (cA : Nat → ClassId) (ad : Nat → Nat) (avs : List Value) (w : Wd) (sz : Nat) : Array Value → State → Prop := va_Pc (avs.map (xv ad)) (fun U => U.heap.size = sz ∧ xK D cA U ∧ va_P D CL (xW cA ad w) U.heap ∧ xAd (fun _ => True) ad w.1 ∧ xSt ad (va_A (xW cA ad w) sz) U U.heap)
def xQ0 (D : va_G) (cA : Nat → ClassId) (ad : Nat → Nat) (g : Nat × Nat) (sh : Nat → Nat × Nat) (A : Nat → Prop) (Po : Option Value → Sg → Prop) : Array Value → State → Outcome → State → Prop := fun _ st oc t => (∃ (r : Option Value) (b : Sg), oc = .returned (r.map (xv ad)) ∧ Po r b ∧ va_P D CL (xW cA ad (g, sh, b)) t.heap) ∧ va_F A st t
/-- a method that makes no cells: from this world and these arguments it returns, and its answer and the new contents have Po -/
def MT (y : MethodName) (bytes : ByteArray) (maxL : Nat) (ret : Option FieldType) (rm : Room) (avs : List Value) (g : Nat × Nat) (sh : Nat → Nat × Nat) (a : Sg) (Po : Option Value → Sg → Prop) : Prop :=
  ∀ (l : Launch) (D : va_G) (cA : Nat → ClassId) (ad : Nat → Nat) (sz : Nat), Met l y (Cond.code y bytes maxL ret :: BIG) rm (xPc D cA ad avs (g, sh, a) sz) (xQ0 D cA ad g sh (va_A (xW cA ad (g, sh, a)) sz) Po) 0 0 (va_A (xW cA ad (g, sh, a)) sz)
theorem xPc_blind {D : va_G} {cA : Nat → ClassId} {ad : Nat → Nat} {avs : List Value} {w : Wd} {sz : Nat} : FrameBlind (xPc D cA ad avs w sz) := by
  intro a U g mk h
  obtain ⟨h0, h1, h2, h3, h4, h5⟩ := h
  exact ⟨h0, h1, xK.same (s := U) (U := U.calling g mk a) rfl h2, h3, h4, h5.moved (u := U) (U := U.calling g mk a) (Vm.Alike.refl U.vm)⟩
/-- the context of such a method's walk -/
def xCx (p : Program) (l : Launch) (e : Env) (s : State) (m : MethodId) (args : Array Value) (below : List Frame) (meth : Method) (c : Code) (D : va_G) (cA : Nat → ClassId) (ad : Nat → Nat) (rm : Room) (nL : Nat) (g : Nat × Nat) (sh : Nat → Nat × Nat) (A : Nat → Prop) (Po : Option Value → Sg → Prop) : Cx :=
  (p, l, e, rm, s, m, args, below, meth, c, D, cA, A, nL, (fun ad' => ad' = ad), MQ below (xQ0 D cA ad g sh A Po) args s 0 0 A)
/-- a walk's end is by Po -/
def xEnd (C : Cx) (g : Nat × Nat) (sh : Nat → Nat × Nat) (Po : Option Value → Sg → Prop) : Prop := ∃ p l e s m args below meth c D cA ad rm nL A, C = xCx p l e s m args below meth c D cA ad rm nL g sh A Po
theorem MT.of {y : MethodName} {bytes : ByteArray} {maxL : Nat} {ret : Option FieldType} {rm : Room} {avs : List Value} {g : Nat × Nat} {sh : Nat → Nat × Nat} {a : Sg} {Po : Option Value → Sg → Prop} (hy : plainName y.cls = true) (hn : (lg_sl avs).length ≤ maxL)
    (h : ∀ C : Cx, xOk C bytes y.cls maxL rm ret → xEnd C g sh Po → AW C 0 (lv_args 0 avs) [] (g, sh, a) 0 0) : MT y bytes maxL ret rm avs g sh a Po := by
  intro l D cA ad sz
  refine Met.ofW (cc := bytes) (maxL := maxL) (ret := ret) hy rfl ?_
  intro p e s m args below meth c s₁ B hml hv
  obtain ⟨rfl, hsz, hK, hP, hD, hT⟩ := hv
  subst hsz
  have hts := atoms_spec (ws := Cond.code y bytes maxL ret :: BIG) B.pre
  have hown : s.vm.findClass y.cls = some m.cls := findClass_of_methodNamed B.named
  have hargs : ∀ vs : List Value, lv_args 0 (vs.map (xv ad)) = xl ad (lv_args 0 vs) := by
    have key : ∀ (vs : List Value) (i : Nat), lv_args i (vs.map (xv ad)) = xl ad (lv_args i vs) := by
      intro vs
      induction vs with
      | nil => intro i; rfl
      | cons v vs ih =>
        intro i
        simp only [List.map_cons, lv_args, xl, xv_cat]
        rw [ih]
        rfl
    exact fun vs => key vs 0
  have hlen : (lg_sl (avs.map (xv ad))).length = (lg_sl avs).length := by
    have key : ∀ vs : List Value, (lg_sl (vs.map (xv ad))).length = (lg_sl vs).length := by
      intro vs
      induction vs with
      | nil => rfl
      | cons v vs ih => cases v <;> simp_all [lg_sl, xv, Value.category]
    exact key avs
  have hl := lv_entry (avs.map (xv ad)) (n := maxL) (by rw [hlen]; exact hn)
  rw [lg_entry_eq]
  rw [hargs] at hl
  exact h (xCx p l e s m (avs.map (xv ad)).toArray below meth c D cA ad rm maxL g sh (va_A (xW cA ad (g, sh, a)) s.heap.size) Po) ⟨B.exec, B.bytes, ⟨hml, rfl⟩, hown, fun w hw => hts w (List.mem_cons_of_mem _ hw), hK, fun q h => Or.inr h, B.notSynchronized, rfl, B.returns⟩ ⟨p, l, e, s, m, _, below, meth, c, D, cA, ad, rm, maxL, _, rfl⟩ ad s.heap [] _ rfl hT hP (xAd_w hD (fun i hi _ => va_A.in (xW_at (w := (g, sh, a)) hi))) va_S.rf hl
section XC
variable {C : Cx} {cc : ByteArray} {own : String} {nL : Nat} {rm : Room} {rt : Option FieldType} {pc : Nat} {lv : List (Nat × Value)} {st : List Value} {g : Nat × Nat} {sh : Nat → Nat × Nat} {a : Sg} {Po : Option Value → Sg → Prop}
theorem x_iret (hC : xOk C cc own nL rm (some .int)) (hE : xEnd C g sh Po) (hd : decode cc pc = .ok (.ireturn, 1)) {v : Int32} (h : Po (some (.int v)) a) : AW C pc lv [.int v] (g, sh, a) 0 0 := by
  obtain ⟨p, l, e, s, m, args, below, meth, c, D, cA, ad0, rm', nL', A, rfl⟩ := hE
  obtain ⟨hx, hb, -, -, -, -, -, hlocks, -, hr⟩ := hC
  intro ad H locs ls hG hT hP hA hS hl
  obtain rfl : ad = ad0 := hG
  exact W.iret (v := v) hx hb hr (fun t ht hW => ⟨⟨some (.int v), a, rfl, h, by rw [ht]; exact hP⟩, hS.F ht⟩) hS.2.2 hd hlocks
theorem x_zret (hC : xOk C cc own nL rm (some .boolean)) (hE : xEnd C g sh Po) (hd : decode cc pc = .ok (.ireturn, 1)) {v : Int32} (hv : v = 0 ∨ v = 1) (h : Po (some (.int v)) a) : AW C pc lv [.int v] (g, sh, a) 0 0 := by
  obtain ⟨p, l, e, s, m, args, below, meth, c, D, cA, ad0, rm', nL', A, rfl⟩ := hE
  obtain ⟨hx, hb, -, -, -, -, -, hlocks, -, hr⟩ := hC
  intro ad H locs ls hG hT hP hA hS hl
  obtain rfl : ad = ad0 := hG
  exact W.zret (v := v) hx hb hr (by rcases hv with rfl | rfl <;> rfl) (fun t ht hW => ⟨⟨some (.int v), a, rfl, h, by rw [ht]; exact hP⟩, hS.F ht⟩) hS.2.2 hd hlocks
theorem x_lret (hC : xOk C cc own nL rm (some .long)) (hE : xEnd C g sh Po) (hd : decode cc pc = .ok (.lreturn, 1)) {v : Int64} (h : Po (some (.long v)) a) : AW C pc lv [.long v] (g, sh, a) 0 0 := by
  obtain ⟨p, l, e, s, m, args, below, meth, c, D, cA, ad0, rm', nL', A, rfl⟩ := hE
  obtain ⟨hx, hb, -, -, -, -, -, hlocks, -, hr⟩ := hC
  intro ad H locs ls hG hT hP hA hS hl
  obtain rfl : ad = ad0 := hG
  exact W.lret (v := v) hx hb hr (fun t ht hW => ⟨⟨some (.long v), a, rfl, h, by rw [ht]; exact hP⟩, hS.F ht⟩) hS.2.2 hd hlocks
theorem x_vret (hC : xOk C cc own nL rm none) (hE : xEnd C g sh Po) (hd : decode cc pc = .ok (.return_, 1)) (h : Po none a) : AW C pc lv [] (g, sh, a) 0 0 := by
  obtain ⟨p, l, e, s, m, args, below, meth, c, D, cA, ad0, rm', nL', A, rfl⟩ := hE
  obtain ⟨hx, hb, -, -, -, -, -, hlocks, -, hr⟩ := hC
  intro ad H locs ls hG hT hP hA hS hl
  obtain rfl : ad = ad0 := hG
  exact W.vret hx hb hr (fun t ht hW => ⟨⟨none, a, rfl, h, by rw [ht]; exact hP⟩, hS.F ht⟩) hS.2.2 hd hlocks
theorem x_aret {nm : String} (hC : xOk C cc own nL rm (some (.object nm))) (hE : xEnd C g sh Po) (hd : decode cc pc = .ok (.areturn, 1)) {q : Nat} (h : Po (some (.ref q)) a) : AW C pc lv [.ref q] (g, sh, a) 0 0 := by
  obtain ⟨p, l, e, s, m, args, below, meth, c, D, cA, ad0, rm', nL', A, rfl⟩ := hE
  obtain ⟨hx, hb, -, -, -, -, -, hlocks, -, hr⟩ := hC
  intro ad H locs ls hG hT hP hA hS hl
  obtain rfl : ad = ad0 := hG
  exact W.aret (v := .ref (ad q)) hx hb hr (Or.inl ⟨nm, rfl⟩) (Or.inr ⟨_, rfl⟩) (fun t ht hW => ⟨⟨some (.ref q), a, rfl, h, by rw [ht]; exact hP⟩, hS.F ht⟩) hS.2.2 hd hlocks
/-- a method of an object: what the tables say of it; n: how many arguments -/
def MI (y : MethodName) (ci : Nat) (bytes : ByteArray) (maxL : Nat) (ret : Option FieldType) (n : Nat) : Prop := Cond.instanceMethod y ∈ BIG ∧ Cond.selects y.cls y y ∈ BIG ∧ Cond.initialized y.cls ∈ BIG ∧ Cond.code y bytes maxL ret ∈ BIG ∧ (y.cls = RRf ci ∧ ci < 10) ∧ y.cls ≠ "java/lang/invoke/MethodHandle" ∧ y.cls ≠ "java/lang/invoke/VarHandle" ∧ (parseMethodDescriptor y.desc).map (fun d => d.parameters.length) = some n
def MS (y : MethodName) (bytes : ByteArray) (maxL : Nat) (ret : Option FieldType) (n : Nat) : Prop := Cond.static y ∈ BIG ∧ Cond.initialized y.cls ∈ BIG ∧ Cond.code y bytes maxL ret ∈ BIG ∧ y.cls ≠ "java/lang/invoke/MethodHandle" ∧ y.cls ≠ "java/lang/invoke/VarHandle" ∧ (parseMethodDescriptor y.desc).map (fun d => d.parameters.length) = some n
theorem big_good {w : Cond} (h : w ∈ BIG) : w ∈ BIG ∧ ((w.onTables && w.keeps) = true ∨ ∃ ty, w = .arrayClass ty) := ⟨h, good_of_word (List.mem_filter.mp h).2⟩
theorem big_in {w : Cond} (h : w ∈ BIG) : GoodIn BIG (w :: BIG) := fun x hx => (List.mem_cons.mp hx).elim (fun e => e ▸ big_good h) (fun z => big_good z)
theorem x_back {p : Program} {l : Launch} {e : Env} {R : Room} {s : State} {m : MethodId} {args : Array Value} {below : List Frame} {meth : Method} {c : Code} {H : Heap} {locs : List Loc} {k n : Nat} {Q : State → Prop} {ls : Array Slot} {rest st0 : List Value} {aa : Array Value} {D : va_G} {cA : Nat → ClassId} {ad : Nat → Nat} {A0 A1 : Nat → Prop}
    (hr : va_Run p l e R s m args below meth c H locs k n 0 0 (F0 m pc ls st0) rest (xQ0 D cA ad g sh A1 Po aa) A1) (hS : va_S A0 s.heap H locs) (hA : ∀ q, A1 q → A0 q)
    (kk : ∀ (r : Option Value) (b : Sg) (H1 : Heap) (locs1 : List Loc), Po r b → va_P D CL (xW cA ad (g, sh, b)) H1 → va_S A0 s.heap H1 locs1 → W p l e R s m args below meth c H1 locs1 k n Q (F0 m (pc + 3) ls ((r.map (xv ad)).toList ++ rest))) : W p l e R s m args below meth c H locs k n Q (F0 m pc ls st0) := by
  intro T hT X
  obtain ⟨v, st₀, t, T', L, h0, X', hL, e1, e2, ⟨⟨r, b, hv, hp, hb⟩, hz, hk⟩, st⟩ := hr T hT X
  cases hv
  rw [h0] at hz hk
  obtain ⟨t2, a1, b1⟩ := kk r b T'.heap (locs ++ L) hp (by rw [e1]; exact hb)
    ⟨Nat.le_trans hS.1 (by rw [e1]; exact hz), fun q h1 h2 => by rw [e1, hk q (Nat.lt_of_lt_of_le h1 hS.1) (fun z => h2 (hA q z))]; exact hS.2.1 q h1 h2, fun q hq => by
      rcases List.mem_append.mp hq with h | h
      · exact hS.2.2 q h
      · exact hA _ (hL q h)⟩ T' rfl X'
  exact ⟨t2, st t2 a1, b1⟩
theorem x_pre {s : State} {H : Heap} {locs : List Loc} {D : va_G} {cA : Nat → ClassId} {ad : Nat → Nat} {A : Nat → Prop} {w : Wd} {avs : List Value} (hK : xK D cA s) (hP : va_P D CL (xW cA ad w) H) (hA : xAd A ad w.1) (hS : va_S A s.heap H locs) (hA0 : ∀ q, s.heap.size ≤ q → A q) (hT : xSt ad A s s.heap) : (∀ U : State, U.heap = H → s.WarmedH U.vm → xPc D cA ad avs w H.size (avs.map (xv ad)).toArray U) ∧ ∀ q, va_A (xW cA ad w) H.size q → A q := by
  have hF : ∀ q, va_A (xW cA ad w) H.size q → A q := by
    intro q h
    rcases h with ⟨i, x, h⟩ | h
    · obtain ⟨h1, h2⟩ := xW_of h
      cases h2
      exact hA.2 _ ⟨by omega, by omega⟩
    · exact hA0 q (Nat.le_trans hS.1 h)
  refine ⟨fun U hU hW => ⟨rfl, by rw [hU], hK.moved hW, by rw [hU]; exact hP, ⟨hA.1, fun _ _ => trivial⟩, ?_⟩, hF⟩
  rw [hU]
  exact ((hT.kept hS.2.1).narrow hF).moved hW.alike
theorem cat_map (ad : Nat → Nat) (st : List Value) : ((st.map (xv ad)).map fun v => v.category).sum = (st.map fun v => v.category).sum := by
  rw [List.map_map]
  congr 1
  apply List.map_congr_left
  intro v _
  exact xv_cat ad v
theorem x_callV {y : MethodName} {bytes : ByteArray} {maxL nA ci idx q : Nat} {ret : Option FieldType} {rmy : Room} {avs : List Value} (hC : xOk C cc own nL rm rt) (hd : decode cc pc = .ok (.invokevirtual idx, 3)) (hl : Cond.methodLink own idx y ∈ BIG) (hI : MI y ci bytes maxL ret nA) (hn : avs.length = nA) (hM : MT y bytes maxL ret rmy (.ref q :: avs) g sh a Po) (hq : xIn g q ∧ (sh q).1 = ci) (hc : (st.map fun v => v.category).sum ≤ 8) (hz : rmy.cells = 0 ∧ rmy.slots = 0) (hR : rmy.frames + 1 ≤ rm.frames ∧ 8 + (maxL + 11) + rmy.locals ≤ rm.locals)
    (kk : ∀ (r : Option Value) (b : Sg), Po r b → AW C (pc + 3) lv (r.toList ++ st) (g, sh, b) 0 0) : AW C pc lv (avs.reverse ++ .ref q :: st) (g, sh, a) 0 0 := by
  obtain ⟨p, l, e, R, s, m, args, below, meth, c, D, cA, A, nL', G, Q⟩ := C
  obtain ⟨hx, hb, ⟨hml, hnl⟩, hown, hts, hK, hA0, -, hRR, -⟩ := hC
  subst hRR; subst hnl
  intro ad H locs ls hG hT hP hA hS hl'
  obtain ⟨i1, i2, i3, i4, ⟨i5, i6⟩, i7⟩ := hI
  obtain ⟨hpre, hF⟩ := x_pre (avs := .ref q :: avs) hK hP hA hS hA0 hT
  have hrecv := va_recv hK.1 hP (cl_at i6) (by have he := xW_at (cA := cA) (ad := ad) (w := (g, sh, a)) hq.1; rw [xE_obj hq.2 i6] at he; exact he)
  have hG1 : GoodIn BIG (wsV own idx y.cls y (Cond.code y bytes maxL ret :: BIG)) := by
    intro w hw
    simp only [wsV, List.cons_append, List.nil_append, List.mem_cons] at hw
    rcases hw with rfl | rfl | rfl | rfl | rfl | hw
    · exact big_good hl
    · exact big_good i1
    · exact big_good i2
    · exact big_good i3
    · exact big_good i4
    · exact big_good hw
  refine x_back (va_runV (As := avs.map (xv ad)) (rest := st.map (xv ad)) (C := y.cls) ⟨hx, hb, hml, hown, hts⟩ (hM l D cA ad H.size) (cwV (C := y.cls) nA hts hG1 rfl hz.1 hz.2 ⟨rfl, i7⟩ hR) ⟨xPc_blind, by rw [i5]; exact hrecv, fun U hU hW => hpre U hU hW⟩ rfl (by rw [List.length_map]; exact hn) hl'.1 ?_ ?_ hd ⟨Nat.zero_le _, Nat.zero_le _⟩) hS hF (fun r b H1 locs1 hp hP1 hS1 => ?_)
  · simp [xv, List.map_append, List.map_reverse]
  · exact lv_room (by rw [cat_map]; exact hc)
  · have hk := kk r b hp ad H1 locs1 ls hG hT hP1 hA hS1 hl'
    rw [List.map_append] at hk
    cases r <;> exact hk
theorem x_callS {y : MethodName} {bytes : ByteArray} {maxL nA idx : Nat} {ret : Option FieldType} {rmy : Room} {avs : List Value} (hC : xOk C cc own nL rm rt) (hd : decode cc pc = .ok (.invokestatic idx, 3)) (hl : Cond.methodLink own idx y ∈ BIG) (hI : MS y bytes maxL ret nA) (hn : avs.length = nA) (hM : MT y bytes maxL ret rmy avs g sh a Po) (hc : (st.map fun v => v.category).sum ≤ 8) (hz : rmy.cells = 0 ∧ rmy.slots = 0) (hR : rmy.frames + 1 ≤ rm.frames ∧ 8 + (maxL + 11) + rmy.locals ≤ rm.locals)
    (kk : ∀ (r : Option Value) (b : Sg), Po r b → AW C (pc + 3) lv (r.toList ++ st) (g, sh, b) 0 0) : AW C pc lv (avs.reverse ++ st) (g, sh, a) 0 0 := by
  obtain ⟨p, l, e, R, s, m, args, below, meth, c, D, cA, A, nL', G, Q⟩ := C
  obtain ⟨hx, hb, ⟨hml, hnl⟩, hown, hts, hK, hA0, -, hRR, -⟩ := hC
  subst hRR; subst hnl
  intro ad H locs ls hG hT hP hA hS hl'
  obtain ⟨i1, i3, i4, i7⟩ := hI
  obtain ⟨hpre, hF⟩ := x_pre (avs := avs) hK hP hA hS hA0 hT
  have hG1 : GoodIn BIG (va_wsS own idx y (Cond.code y bytes maxL ret :: BIG)) := by
    intro w hw
    simp only [va_wsS, List.cons_append, List.nil_append, List.mem_cons] at hw
    rcases hw with rfl | rfl | rfl | rfl | hw
    · exact big_good hl
    · exact big_good i1
    · exact big_good i3
    · exact big_good i4
    · exact big_good hw
  refine x_back (va_runS (As := avs.map (xv ad)) (rest := st.map (xv ad)) ⟨hx, hb, hml, hown, hts⟩ (hM l D cA ad H.size) (va_cwS nA hts hG1 rfl hz.1 hz.2 i7 hR) ⟨xPc_blind, fun U hU hW => hpre U hU hW⟩ rfl (by rw [List.length_map]; exact hn) hl'.1 ?_ ?_ hd ⟨Nat.zero_le _, Nat.zero_le _⟩) hS hF (fun r b H1 locs1 hp hP1 hS1 => ?_)
  · simp [List.map_append, List.map_reverse]
  · exact lv_room (by rw [cat_map]; exact hc)
  · have hk := kk r b hp ad H1 locs1 ls hG hT hP1 hA hS1 hl'
    rw [List.map_append] at hk
    cases r <;> exact hk
/-- a static method of a nest mate -/
theorem x_callSN {y : MethodName} {bytes : ByteArray} {maxL nA idx : Nat} {host : String} {ret : Option FieldType} {rmy : Room} {avs : List Value} (hC : xOk C cc own nL rm rt) (hd : decode cc pc = .ok (.invokestatic idx, 3)) (hl : Cond.methodLinkNest own idx y host ∈ lw_tbl.filter isNest) (hI : MS y bytes maxL ret nA) (hn : avs.length = nA) (hM : MT y bytes maxL ret rmy avs g sh a Po) (hc : (st.map fun v => v.category).sum ≤ 8) (hz : rmy.cells = 0 ∧ rmy.slots = 0) (hR : rmy.frames + 1 ≤ rm.frames ∧ 8 + (maxL + 11) + rmy.locals ≤ rm.locals)
    (kk : ∀ (r : Option Value) (b : Sg), Po r b → AW C (pc + 3) lv (r.toList ++ st) (g, sh, b) 0 0) : AW C pc lv (avs.reverse ++ st) (g, sh, a) 0 0 := by
  obtain ⟨p, l, e, R, s, m, args, below, meth, c, D, cA, A, nL', G, Q⟩ := C
  obtain ⟨hx, hb, ⟨hml, hnl⟩, hown, hts, hK, hA0, -, hRR, -⟩ := hC
  subst hRR; subst hnl
  intro ad H locs ls hG hT hP hA hS hl'
  obtain ⟨i1, i3, i4, i7⟩ := hI
  obtain ⟨hpre, hF⟩ := x_pre (avs := avs) hK hP hA hS hA0 hT
  refine x_back (va_runSN (As := avs.map (xv ad)) (rest := st.map (xv ad)) ⟨hx, hb, hml, hown, hts⟩ (hM l D cA ad H.size) ⟨va_cnB nA hts (big_in i4) rfl hz.1 hz.2 (hK.2.1 _ hl) (hts _ i3) i7 hR, hts _ i1, trivial⟩ ⟨xPc_blind, fun U hU hW => hpre U hU hW⟩ rfl (by rw [List.length_map]; exact hn) hl'.1 ?_ ?_ hd ⟨Nat.zero_le _, Nat.zero_le _⟩) hS hF (fun r b H1 locs1 hp hP1 hS1 => ?_)
  · simp [List.map_append, List.map_reverse]
  · exact lv_room (by rw [cat_map]; exact hc)
  · have hk := kk r b hp ad H1 locs1 ls hG hT hP1 hA hS1 hl'
    rw [List.map_append] at hk
    cases r <;> exact hk
end XC
