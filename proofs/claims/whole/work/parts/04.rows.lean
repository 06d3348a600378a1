/-! The machine over worlds of numbered cells: a cell is named by its place, its contents are functions of place and slot. -/
def xv (ad : Nat → Nat) (v : Value) : Value := match v with
  | .ref k => .ref (ad k)
  | v => v
def xl (ad : Nat → Nat) (lv : List (Nat × Value)) : List (Nat × Value) := lv.map (fun q => (q.1, xv ad q.2))
/-- contents: whole numbers (and truth values), references, longs; by place and slot -/
abbrev Sg : Type := (Nat → Nat → Int32) × (Nat → Nat → Option Nat) × (Nat → Nat → Int64)
/-- a world: first place and how many; the kind of each (a number under 20: an object; 20 ints, 21 truth values, 22 + n references to objects of kind n; with the length); contents -/
abbrev Wd : Type := (Nat × Nat) × (Nat → Nat × Nat) × Sg
def fvl (ad : Nat → Nat) (g : Sg) (t q j : Nat) : Value := match t with
  | 1 => va_re ad (g.2.1 q j)
  | 2 => .long (g.2.2 q j)
  | _ => .int (g.1 q j)
def xE (cA : Nat → ClassId) (ad : Nat → Nat) (sh : Nat → Nat × Nat) (g : Sg) (q : Nat) : va_E :=
  if (sh q).1 < 20 then .inr ((sh q).1, (List.range (NF (sh q).1)).map (fun j => fvl ad g (FT (sh q).1 j) q j))
  else if (sh q).1 < 22 then .inl (cA (sh q).1, (sh q).2, .inl (g.1 q))
  else .inl (cA (sh q).1, (sh q).2, .inr (.inr (.inr (.inr (fun j => (g.2.1 q j).map ad)))))
def xW (cA : Nat → ClassId) (ad : Nat → Nat) (w : Wd) : va_W := (List.range w.1.2).map (fun i => (ad (w.1.1 + i), xE cA ad w.2.1 w.2.2 (w.1.1 + i)))
def xIn (g : Nat × Nat) (q : Nat) : Prop := g.1 ≤ q ∧ q < g.1 + g.2
def xAd (A : Nat → Prop) (ad : Nat → Nat) (g : Nat × Nat) : Prop := (∀ i j, xIn g i → xIn g j → ad i = ad j → i = j) ∧ ∀ i, xIn g i → A (ad i)
theorem xW_at {cA : Nat → ClassId} {ad : Nat → Nat} {w : Wd} {q : Nat} (h : xIn w.1 q) : (xW cA ad w)[q - w.1.1]? = some (ad q, xE cA ad w.2.1 w.2.2 q) := by
  obtain ⟨h1, h2⟩ := h
  have h3 : q - w.1.1 < w.1.2 := by omega
  have h4 : w.1.1 + (q - w.1.1) = q := by omega
  simp only [xW, List.getElem?_map, List.getElem?_range h3, Option.map_some, h4]
theorem xW_of {cA : Nat → ClassId} {ad : Nat → Nat} {w : Wd} {i : Nat} {x : Nat × va_E} (h : (xW cA ad w)[i]? = some x) : i < w.1.2 ∧ x = (ad (w.1.1 + i), xE cA ad w.2.1 w.2.2 (w.1.1 + i)) := by
  have h1 : i < w.1.2 := by
    have := (List.getElem?_eq_some_iff.mp h).1
    simpa [xW] using this
  have h2 := xW_at (cA := cA) (ad := ad) (w := w) (q := w.1.1 + i) ⟨by omega, by omega⟩
  rw [show w.1.1 + i - w.1.1 = i by omega] at h2
  exact ⟨h1, Option.some.inj (h.symm.trans h2)⟩
theorem xD_of {A : Nat → Prop} {cA : Nat → ClassId} {ad : Nat → Nat} {w : Wd} (h : xAd A ad w.1) : va_D A (xW cA ad w) := by
  refine ⟨fun i j p q hi hj hpq => ?_, fun k q hk => ?_⟩
  · obtain ⟨a1, a2⟩ := xW_of hi
    obtain ⟨b1, b2⟩ := xW_of hj
    subst a2; subst b2
    have := h.1 (w.1.1 + i) (w.1.1 + j) ⟨by omega, by omega⟩ ⟨by omega, by omega⟩ hpq
    omega
  · obtain ⟨a1, a2⟩ := xW_of hk
    subst a2
    exact h.2 _ ⟨by omega, by omega⟩
theorem xAd_of {A : Nat → Prop} {cA : Nat → ClassId} {ad : Nat → Nat} {w : Wd} (h : va_D A (xW cA ad w)) : xAd A ad w.1 := by
  refine ⟨fun i j hi hj hij => ?_, fun i hi => h.2 _ _ (xW_at hi)⟩
  have := h.1 _ _ _ _ (xW_at hi) (xW_at hj) hij
  obtain ⟨a, b⟩ := hi
  obtain ⟨c, d⟩ := hj
  omega
theorem xAd_w {A B : Nat → Prop} {ad : Nat → Nat} {g : Nat × Nat} (h : xAd A ad g) (hB : ∀ i, xIn g i → A (ad i) → B (ad i)) : xAd B ad g := ⟨h.1, fun i hi => hB i hi (h.2 i hi)⟩
theorem set_map {α : Type} {n k : Nat} {f f' : Nat → α} {v : α} (hk : f' k = v) (ho : ∀ j, j ≠ k → f' j = f j) : ((List.range n).map f).set k v = (List.range n).map f' := by
  apply List.ext_getElem?
  intro i
  by_cases hi : i = k
  · subst hi
    by_cases hn : i < n
    · rw [List.getElem?_set_self (by simpa using hn)]
      simp [hn, hk]
    · simp [hn]
  · rw [List.getElem?_set_ne (fun h => hi h.symm)]
    by_cases hn : i < n
    · simp [hn, ho i hi]
    · simp [hn]
theorem xW_set {cA : Nat → ClassId} {ad : Nat → Nat} {g : Nat × Nat} {sh : Nat → Nat × Nat} {a b : Sg} {q : Nat} {e : va_E} (hq : xIn g q) (he : e = xE cA ad sh b q) (ho : ∀ j, j ≠ q → xE cA ad sh b j = xE cA ad sh a j) : (xW cA ad (g, sh, a)).set (q - g.1) (ad q, e) = xW cA ad (g, sh, b) := by
  obtain ⟨h1, h2⟩ := hq
  refine set_map ?_ (fun j hj => ?_)
  · show (ad (g.1 + (q - g.1)), xE cA ad sh b (g.1 + (q - g.1))) = _
    rw [show g.1 + (q - g.1) = q by omega, he]
  · show (ad (g.1 + j), xE cA ad sh b (g.1 + j)) = (ad (g.1 + j), xE cA ad sh a (g.1 + j))
    rw [ho (g.1 + j) (by omega)]
def up2 {α : Type} (f : Nat → Nat → α) (q j : Nat) (v : α) : Nat → Nat → α := fun a b => if a = q ∧ b = j then v else f a b
theorem up2_row {α : Type} {f : Nat → Nat → α} {q j : Nat} {v : α} {a : Nat} (h : a ≠ q) : up2 f q j v a = f a := by
  funext b
  simp [up2, h]
theorem up2_same {α : Type} {f : Nat → Nat → α} {q j : Nat} {v : α} : up2 f q j v q j = v := by simp [up2]
theorem up2_ne {α : Type} {f : Nat → Nat → α} {q j : Nat} {v : α} {b : Nat} (h : b ≠ j) (a : Nat) : up2 f q j v a b = f a b := by simp [up2, h]
theorem up2_neq {α : Type} {f : Nat → Nat → α} {q j : Nat} {v : α} {a : Nat} (h : a ≠ q) (b : Nat) : up2 f q j v a b = f a b := by simp [up2, h]
theorem up2_upd {f : Nat → Nat → Int32} {q j : Nat} {v : Int32} : up2 f q j v q = upd (f q) j v := by
  funext b
  by_cases h : b = j <;> simp [up2, upd, h]
/-- the kinds of arrays that are there -/
def tyA (cA : Nat → ClassId) : List (ClassId × FieldType) := [(cA 20, .int), (cA 21, .boolean), (cA 23, .object RX1), (cA 24, .object RX2), (cA 25, .object RX3)]
def xK (D : va_G) (cA : Nat → ClassId) (U : State) : Prop := va_K D CL (tyA cA) U ∧ (∀ w ∈ lw_tbl.filter isNest, va_Nw w U) ∧ va_AO RX1 U ∧ va_AO RX2 U ∧ va_AO RX3 U
theorem xK.moved {D : va_G} {cA : Nat → ClassId} {s U : State} (hW : s.WarmedH U.vm) (h : xK D cA s) : xK D cA U := by
  obtain ⟨h1, h2, h3, h4, h5⟩ := h
  refine ⟨va_K.moved hW.alike h1, fun w hw => ?_, h3.moved hW.alike, h4.moved hW.alike, h5.moved hW.alike⟩
  have hn := (List.mem_filter.mp hw).2
  have h6 := h2 w hw
  cases w <;> first | exact va_Nw.warmM hW h6 | (simp [isNest] at hn)
theorem xK.same {D : va_G} {cA : Nat → ClassId} {s U : State} (hv : s.vm = U.vm) (h : xK D cA s) : xK D cA U := by
  have ha : s.vm.Alike U.vm := by rw [hv]; exact Vm.Alike.refl _
  obtain ⟨h1, h2, h3, h4, h5⟩ := h
  refine ⟨va_K.moved ha h1, fun w hw => ?_, h3.moved ha, h4.moved ha, h5.moved ha⟩
  have hn := (List.mem_filter.mp hw).2
  have h6 := h2 w hw
  cases w <;> first | exact va_Nw.same rfl hv h6 | (simp [isNest] at hn)
def fLow (j : Nat) : Value := .int (([49, 43, 48, 42, 49, 58, 49] : List Int32).getD j 0)
def fHigh (j : Nat) : Value := .int (([57, 43, 57, 42, 57, 58, 56] : List Int32).getD j 0)
/-- the tables of Page: cells 900 and 901, old ones -/
def xSt (ad : Nat → Nat) (A : Nat → Prop) (U : State) (H : Heap) : Prop :=
  (va_Z RX5 "LOWEST" "[I" (.ref (ad 900)) A U H ∧ va_T .int (ad 900) 7 fLow A U H) ∧ va_Z RX5 "HIGHEST" "[I" (.ref (ad 901)) A U H ∧ va_T .int (ad 901) 7 fHigh A U H
theorem xSt.moved {ad : Nat → Nat} {A : Nat → Prop} {u U : State} {H : Heap} (hvm : u.vm.Alike U.vm) (h : xSt ad A u H) : xSt ad A U H := ⟨⟨h.1.1.moved hvm, h.1.2.moved hvm⟩, h.2.1.moved hvm, h.2.2.moved hvm⟩
theorem xSt.kept {ad : Nat → Nat} {A : Nat → Prop} {U : State} {H H1 : Heap} (h : xSt ad A U H) (hq : ∀ a : Nat, a < H.size → ¬ A a → H1[a]? = H[a]?) : xSt ad A U H1 := ⟨⟨h.1.1.kept hq, h.1.2.kept hq⟩, h.2.1.kept hq, h.2.2.kept hq⟩
theorem xSt.narrow {ad : Nat → Nat} {A B : Nat → Prop} {U : State} {H : Heap} (h : xSt ad A U H) (hAB : ∀ q, B q → A q) : xSt ad B U H := ⟨⟨h.1.1.narrow hAB, h.1.2.narrow hAB⟩, h.2.1.narrow hAB, h.2.2.narrow hAB⟩
theorem xSt.ad {ad ad' : Nat → Nat} {A : Nat → Prop} {U : State} {H : Heap} (h : xSt ad A U H) (h0 : ad' 900 = ad 900) (h1 : ad' 901 = ad 901) : xSt ad' A U H := by
  unfold xSt
  rw [h0, h1]
  exact h
/-- what a walk is about: program, launch, surroundings, room, start, method, arguments, frames below; method and code; class numbers; array classes; what may change; how many locals; which places of cells are meant; the end -/
abbrev Cx : Type := Program × Launch × Env × Room × State × MethodId × Array Value × List Frame × Method × Code × va_G × (Nat → ClassId) × (Nat → Prop) × Nat × ((Nat → Nat) → Prop) × (State → Prop)
def AW (C : Cx) (pc : Nat) (lv : List (Nat × Value)) (st : List Value) (w : Wd) (k n : Nat) : Prop := match C with
  | (p, l, e, R, s, m, args, below, meth, c, D, cA, A, nL, G, Q) => ∀ (ad : Nat → Nat) (H : Heap) (locs : List Loc) (ls : Array Slot), G ad → xSt ad A s s.heap → va_P D CL (xW cA ad w) H → xAd A ad w.1 → va_S A s.heap H locs → lv_has ls nL (xl ad lv) → W p l e R s m args below meth c H locs k n Q (F0 m pc ls (st.map (xv ad)))
def xOk (C : Cx) (cc : ByteArray) (own : String) (nL : Nat) (rm : Room) (rt : Option FieldType) : Prop := match C with
  | (p, _, _, R, s, m, args, _, meth, c, D, cA, A, nL', _, _) => p.tables.exec = Jvm.exec ∧ c.code = cc ∧ (c.maxLocals = nL ∧ nL' = nL) ∧ s.vm.findClass own = some m.cls ∧ (∀ w ∈ BIG, w.before args s = true) ∧ xK D cA s ∧ (∀ q, s.heap.size ≤ q → A q) ∧ meth.locks = false ∧ R = rm ∧ meth.sig.returnType = rt
section XL
variable {C : Cx} {cc : ByteArray} {own : String} {nL : Nat} {rm : Room} {rt : Option FieldType} {pc : Nat} {lv lv' : List (Nat × Value)} {st : List Value} {w : Wd} {k n : Nat}
theorem xl_at {ad : Nat → Nat} {ls : Array Slot} {i : Nat} {v : Value} (h : lv_has ls nL (xl ad lv)) (hm : (i, v) ∈ lv) : ls[i]? = some (.val (xv ad v)) := h.2.2 (i, xv ad v) (List.mem_map.mpr ⟨(i, v), hm, rfl⟩)
theorem x_sub (h : ∀ q ∈ lv', q ∈ lv) (kk : AW C pc lv' st w k n) : AW C pc lv st w k n := by
  obtain ⟨p, l, e, R, s, m, args, below, meth, c, D, cA, A, nL', G, Q⟩ := C
  intro ad H locs ls hG hT hP hA hS hl
  exact kk ad H locs ls hG hT hP hA hS ⟨hl.1, hl.2.1, fun q hq => by
    obtain ⟨x, h1, h2⟩ := List.mem_map.mp hq
    exact hl.2.2 q (List.mem_map.mpr ⟨x, h x h1, h2⟩)⟩
theorem x_iconst (hC : xOk C cc own nL rm rt) {i : Int} {v : Int32} (hd : decode cc pc = .ok (.iconst i, 1)) (hv : Int32.ofInt i = v) (kk : AW C (pc + 1) lv (.int v :: st) w k n) : AW C pc lv st w k n := by
  obtain ⟨p, l, e, R, s, m, args, below, meth, c, D, cA, A, nL', G, Q⟩ := C
  obtain ⟨hx, hb, -⟩ := hC
  intro ad H locs ls hG hT hP hA hS hl
  exact lv_iconst hx hb hd hv (kk ad H locs ls hG hT hP hA hS hl)
theorem x_bipush (hC : xOk C cc own nL rm rt) {i : Int} {v : Int32} (hd : decode cc pc = .ok (.bipush i, 2)) (hv : (Int8.ofInt i).toInt32 = v) (kk : AW C (pc + 2) lv (.int v :: st) w k n) : AW C pc lv st w k n := by
  obtain ⟨p, l, e, R, s, m, args, below, meth, c, D, cA, A, nL', G, Q⟩ := C
  obtain ⟨hx, hb, -⟩ := hC
  intro ad H locs ls hG hT hP hA hS hl
  exact lv_bipush hx hb hd hv (kk ad H locs ls hG hT hP hA hS hl)
theorem x_sipush (hC : xOk C cc own nL rm rt) {i : Int} {v : Int32} (hd : decode cc pc = .ok (.sipush i, 3)) (hv : (Int16.ofInt i).toInt32 = v) (kk : AW C (pc + 3) lv (.int v :: st) w k n) : AW C pc lv st w k n := by
  obtain ⟨p, l, e, R, s, m, args, below, meth, c, D, cA, A, nL', G, Q⟩ := C
  obtain ⟨hx, hb, -⟩ := hC
  intro ad H locs ls hG hT hP hA hS hl
  exact lv_sipush hx hb hd hv (kk ad H locs ls hG hT hP hA hS hl)
theorem x_iload_n (hC : xOk C cc own nL rm rt) {i : Fin 4} {v : Int32} (hd : decode cc pc = .ok (.iload_n i, 1)) (hm : ((i : Nat), Value.int v) ∈ lv) (kk : AW C (pc + 1) lv (.int v :: st) w k n) : AW C pc lv st w k n := by
  obtain ⟨p, l, e, R, s, m, args, below, meth, c, D, cA, A, nL', G, Q⟩ := C
  obtain ⟨hx, hb, -⟩ := hC
  intro ad H locs ls hG hT hP hA hS hl
  exact lv_iload_n hx hb hd rfl (xl_at hl hm) (kk ad H locs ls hG hT hP hA hS hl)
theorem x_iload (hC : xOk C cc own nL rm rt) {i : Nat} {v : Int32} (hd : decode cc pc = .ok (.iload i, 2)) (hm : (i, Value.int v) ∈ lv) (kk : AW C (pc + 2) lv (.int v :: st) w k n) : AW C pc lv st w k n := by
  obtain ⟨p, l, e, R, s, m, args, below, meth, c, D, cA, A, nL', G, Q⟩ := C
  obtain ⟨hx, hb, -⟩ := hC
  intro ad H locs ls hG hT hP hA hS hl
  exact lv_iload hx hb hd (xl_at hl hm) (kk ad H locs ls hG hT hP hA hS hl)
theorem x_lload_n (hC : xOk C cc own nL rm rt) {i : Fin 4} {v : Int64} (hd : decode cc pc = .ok (.lload_n i, 1)) (hm : ((i : Nat), Value.long v) ∈ lv) (kk : AW C (pc + 1) lv (.long v :: st) w k n) : AW C pc lv st w k n := by
  obtain ⟨p, l, e, R, s, m, args, below, meth, c, D, cA, A, nL', G, Q⟩ := C
  obtain ⟨hx, hb, -⟩ := hC
  intro ad H locs ls hG hT hP hA hS hl
  exact lv_lload_n hx hb hd rfl (xl_at hl hm) (kk ad H locs ls hG hT hP hA hS hl)
theorem x_aload_n (hC : xOk C cc own nL rm rt) {i : Fin 4} {q : Nat} (hd : decode cc pc = .ok (.aload_n i, 1)) (hm : ((i : Nat), Value.ref q) ∈ lv) (kk : AW C (pc + 1) lv (.ref q :: st) w k n) : AW C pc lv st w k n := by
  obtain ⟨p, l, e, R, s, m, args, below, meth, c, D, cA, A, nL', G, Q⟩ := C
  obtain ⟨hx, hb, -⟩ := hC
  intro ad H locs ls hG hT hP hA hS hl
  exact lv_aload_n hx hb hd rfl (xl_at hl hm) (kk ad H locs ls hG hT hP hA hS hl)
theorem x_aload (hC : xOk C cc own nL rm rt) {i q : Nat} (hd : decode cc pc = .ok (.aload i, 2)) (hm : (i, Value.ref q) ∈ lv) (kk : AW C (pc + 2) lv (.ref q :: st) w k n) : AW C pc lv st w k n := by
  obtain ⟨p, l, e, R, s, m, args, below, meth, c, D, cA, A, nL', G, Q⟩ := C
  obtain ⟨hx, hb, -⟩ := hC
  intro ad H locs ls hG hT hP hA hS hl
  exact lv_aload hx hb hd (xl_at hl hm) (kk ad H locs ls hG hT hP hA hS hl)
theorem xl_filter1 {ad : Nat → Nat} {ls : Array Slot} {i : Nat} {v : Value} (h : lv_has ls nL ((i, xv ad v) :: (xl ad lv).filter (fun q => !(q.1 == i) && !(q.1 + 1 == i && q.2.category == 2)))) (hv : ∀ q ∈ lv', q = (i, v) ∨ (q ∈ lv ∧ (!(q.1 == i) && !(q.1 + 1 == i && q.2.category == 2)) = true)) : lv_has ls nL (xl ad lv') := by
  refine ⟨h.1, h.2.1, fun q hq => ?_⟩
  obtain ⟨x, h1, h2⟩ := List.mem_map.mp hq
  subst h2
  rcases hv x h1 with h3 | ⟨h3, h4⟩
  · subst h3
    exact h.2.2 _ List.mem_cons_self
  · refine h.2.2 _ (List.mem_cons_of_mem _ (List.mem_filter.mpr ⟨List.mem_map.mpr ⟨x, h3, rfl⟩, ?_⟩))
    rw [← h4]
    have : (xv ad x.2).category = x.2.category := by cases x.2 <;> rfl
    simp [this]
theorem xl_filter2 {ad : Nat → Nat} {ls : Array Slot} {i : Nat} {v : Value} (h : lv_has ls nL ((i, xv ad v) :: (xl ad lv).filter (fun q => !(q.1 == i) && (!(q.1 == i + 1) && !(q.1 + 1 == i && q.2.category == 2))))) (hv : ∀ q ∈ lv', q = (i, v) ∨ (q ∈ lv ∧ (!(q.1 == i) && (!(q.1 == i + 1) && !(q.1 + 1 == i && q.2.category == 2))) = true)) : lv_has ls nL (xl ad lv') := by
  refine ⟨h.1, h.2.1, fun q hq => ?_⟩
  obtain ⟨x, h1, h2⟩ := List.mem_map.mp hq
  subst h2
  rcases hv x h1 with h3 | ⟨h3, h4⟩
  · subst h3
    exact h.2.2 _ List.mem_cons_self
  · refine h.2.2 _ (List.mem_cons_of_mem _ (List.mem_filter.mpr ⟨List.mem_map.mpr ⟨x, h3, rfl⟩, ?_⟩))
    rw [← h4]
    have : (xv ad x.2).category = x.2.category := by cases x.2 <;> rfl
    simp [this]
/-- the locals behind a store at i, by program: the new one first, the others that stay -/
def lvS (lv : List (Nat × Value)) (i : Nat) (v : Value) : List (Nat × Value) := (i, v) :: lv.filter (fun q => !(q.1 == i) && !(q.1 + 1 == i && q.2.category == 2))
def lvS2 (lv : List (Nat × Value)) (i : Nat) (v : Value) : List (Nat × Value) := (i, v) :: lv.filter (fun q => !(q.1 == i) && (!(q.1 == i + 1) && !(q.1 + 1 == i && q.2.category == 2)))
theorem lvS_mem {i : Nat} {v : Value} : ∀ q ∈ lvS lv i v, q = (i, v) ∨ (q ∈ lv ∧ (!(q.1 == i) && !(q.1 + 1 == i && q.2.category == 2)) = true) := by
  intro q hq
  rcases List.mem_cons.mp hq with h | h
  · exact Or.inl h
  · exact Or.inr ⟨(List.mem_filter.mp h).1, (List.mem_filter.mp h).2⟩
theorem lvS2_mem {i : Nat} {v : Value} : ∀ q ∈ lvS2 lv i v, q = (i, v) ∨ (q ∈ lv ∧ (!(q.1 == i) && (!(q.1 == i + 1) && !(q.1 + 1 == i && q.2.category == 2))) = true) := by
  intro q hq
  rcases List.mem_cons.mp hq with h | h
  · exact Or.inl h
  · exact Or.inr ⟨(List.mem_filter.mp h).1, (List.mem_filter.mp h).2⟩
theorem x_istore_n (hC : xOk C cc own nL rm rt) {i : Fin 4} {v : Int32} (hd : decode cc pc = .ok (.istore_n i, 1)) (hn : (i : Nat) < nL) (hl' : lvS lv i (.int v) = lv') (kk : AW C (pc + 1) lv' st w k n) : AW C pc lv (.int v :: st) w k n := by
  subst hl'
  obtain ⟨p, l, e, R, s, m, args, below, meth, c, D, cA, A, nL', G, Q⟩ := C
  obtain ⟨hx, hb, ⟨-, hnl⟩, -⟩ := hC
  subst hnl
  intro ad H locs ls hG hT hP hA hS hl
  exact lv_istore_n hx hb hd rfl hl hn rfl (fun ls hl => kk ad H locs ls hG hT hP hA hS (xl_filter1 (v := .int v) hl lvS_mem))
theorem x_istore (hC : xOk C cc own nL rm rt) {i : Nat} {v : Int32} (hd : decode cc pc = .ok (.istore i, 2)) (hn : i < nL) (hl' : lvS lv i (.int v) = lv') (kk : AW C (pc + 2) lv' st w k n) : AW C pc lv (.int v :: st) w k n := by
  subst hl'
  obtain ⟨p, l, e, R, s, m, args, below, meth, c, D, cA, A, nL', G, Q⟩ := C
  obtain ⟨hx, hb, ⟨-, hnl⟩, -⟩ := hC
  subst hnl
  intro ad H locs ls hG hT hP hA hS hl
  exact lv_istore hx hb hd hl hn rfl (fun ls hl => kk ad H locs ls hG hT hP hA hS (xl_filter1 (v := .int v) hl lvS_mem))
theorem x_lstore_n (hC : xOk C cc own nL rm rt) {i : Fin 4} {v : Int64} (hd : decode cc pc = .ok (.lstore_n i, 1)) (hn : (i : Nat) + 1 < nL) (hl' : lvS2 lv i (.long v) = lv') (kk : AW C (pc + 1) lv' st w k n) : AW C pc lv (.long v :: st) w k n := by
  subst hl'
  obtain ⟨p, l, e, R, s, m, args, below, meth, c, D, cA, A, nL', G, Q⟩ := C
  obtain ⟨hx, hb, ⟨-, hnl⟩, -⟩ := hC
  subst hnl
  intro ad H locs ls hG hT hP hA hS hl
  exact lv_lstore_n hx hb hd rfl hl hn rfl (fun ls hl => kk ad H locs ls hG hT hP hA hS (xl_filter2 (v := .long v) hl lvS2_mem))
theorem x_astore_n (hC : xOk C cc own nL rm rt) {i : Fin 4} {q : Nat} (hd : decode cc pc = .ok (.astore_n i, 1)) (hn : (i : Nat) < nL) (hl' : lvS lv i (.ref q) = lv') (kk : AW C (pc + 1) lv' st w k n) : AW C pc lv (.ref q :: st) w k n := by
  subst hl'
  obtain ⟨p, l, e, R, s, m, args, below, meth, c, D, cA, A, nL', G, Q⟩ := C
  obtain ⟨hx, hb, ⟨-, hnl⟩, -⟩ := hC
  subst hnl
  intro ad H locs ls hG hT hP hA hS hl
  exact lv_astore_n hx hb hd rfl hl hn rfl (fun ls hl => kk ad H locs ls hG hT hP hA hS (xl_filter1 (v := .ref q) hl lvS_mem))
theorem x_astore (hC : xOk C cc own nL rm rt) {i q : Nat} (hd : decode cc pc = .ok (.astore i, 2)) (hn : i < nL) (hl' : lvS lv i (.ref q) = lv') (kk : AW C (pc + 2) lv' st w k n) : AW C pc lv (.ref q :: st) w k n := by
  subst hl'
  obtain ⟨p, l, e, R, s, m, args, below, meth, c, D, cA, A, nL', G, Q⟩ := C
  obtain ⟨hx, hb, ⟨-, hnl⟩, -⟩ := hC
  subst hnl
  intro ad H locs ls hG hT hP hA hS hl
  exact lv_astore hx hb hd hl hn rfl (fun ls hl => kk ad H locs ls hG hT hP hA hS (xl_filter1 (v := .ref q) hl lvS_mem))
theorem x_iinc (hC : xOk C cc own nL rm rt) {i : Nat} {d : Int} {v u : Int32} (hd : decode cc pc = .ok (.iinc i d, 3)) (hm : (i, Value.int v) ∈ lv) (hv : v + Int32.ofInt d = u) (hn : i < nL) (hl' : lvS lv i (.int u) = lv') (kk : AW C (pc + 3) lv' st w k n) : AW C pc lv st w k n := by
  subst hl'
  obtain ⟨p, l, e, R, s, m, args, below, meth, c, D, cA, A, nL', G, Q⟩ := C
  obtain ⟨hx, hb, ⟨-, hnl⟩, -⟩ := hC
  subst hnl
  intro ad H locs ls hG hT hP hA hS hl
  have hm' : (i, Value.int v) ∈ xl ad lv := List.mem_map.mpr ⟨_, hm, rfl⟩
  obtain ⟨k0, hk0⟩ := List.getElem?_of_mem hm'
  exact lv_iinc hx hb hd hl hk0 hv hn rfl (fun ls hl => kk ad H locs ls hG hT hP hA hS (xl_filter1 (v := .int u) hl lvS_mem))
end XL
