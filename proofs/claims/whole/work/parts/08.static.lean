def SHL : List (Nat × Nat) := [(8, 0), (5, 0), (20, 9), (0, 0), (7, 0), (6, 0), (24, 5), (2, 0), (20, 8), (20, 8), (20, 8), (20, 8), (2, 0), (20, 8), (20, 8), (20, 8), (20, 8), (2, 0), (20, 8), (20, 8), (20, 8), (20, 8), (2, 0), (20, 8), (20, 8), (20, 8), (20, 8), (2, 0), (20, 8), (20, 8), (20, 8), (20, 8), (25, 4), (23, 4), (3, 0), (20, 24), (20, 24), (20, 16), (20, 16), (20, 16), (21, 16), (1, 0), (4, 0), (20, 10), (20, 16), (3, 0), (20, 24), (20, 24), (20, 16), (20, 16), (20, 16), (21, 16), (1, 0), (4, 0), (20, 10), (20, 16), (3, 0), (20, 24), (20, 24), (20, 16), (20, 16), (20, 16), (21, 16), (1, 0), (4, 0), (20, 10), (20, 16), (3, 0), (20, 24), (20, 24), (20, 16), (20, 16), (20, 16), (21, 16), (1, 0), (4, 0), (20, 10), (20, 16), (9, 0), (20, 9), (20, 7), (20, 4), (20, 4), (20, 4), (20, 4), (20, 4), (20, 4), (20, 4), (21, 4), (21, 4), (21, 4), (20, 4), (20, 4), (20, 96), (20, 96), (20, 256), (20, 256), (20, 256), (21, 256), (21, 4), (20, 4), (20, 4), (20, 4), (20, 4), (20, 4), (20, 4), (20, 4), (20, 4), (20, 256), (20, 4), (20, 40), (20, 128), (20, 512), (20, 8), (20, 8)]
def HRL : List (List Nat) := [[1, 3, 4, 5, 32, 33], [2, 0], [], [], [], [4, 6, 0], [7, 12, 17, 22, 27], [0, 0, 0, 0, 0, 0, 0, 0, 8, 9, 10, 11], [], [], [], [], [0, 0, 0, 0, 0, 0, 0, 0, 13, 14, 15, 16], [], [], [], [], [0, 0, 0, 0, 0, 0, 0, 0, 18, 19, 20, 21], [], [], [], [], [0, 0, 0, 0, 0, 0, 0, 0, 23, 24, 25, 26], [], [], [], [], [0, 0, 0, 0, 0, 0, 0, 0, 28, 29, 30, 31], [], [], [], [], [34, 45, 56, 67], [41, 52, 63, 74], [4, 0, 0, 0, 0, 0, 0, 0, 0, 0, 0, 35, 36, 37, 38, 39, 40], [], [], [], [], [], [], [4, 42, 0, 0, 0, 0, 0, 0, 0, 0, 0, 44], [43, 0], [], [], [4, 0, 0, 0, 0, 0, 0, 0, 0, 0, 0, 46, 47, 48, 49, 50, 51], [], [], [], [], [], [], [4, 53, 0, 0, 0, 0, 0, 0, 0, 0, 0, 55], [54, 0], [], [], [4, 0, 0, 0, 0, 0, 0, 0, 0, 0, 0, 57, 58, 59, 60, 61, 62], [], [], [], [], [], [], [4, 64, 0, 0, 0, 0, 0, 0, 0, 0, 0, 66], [65, 0], [], [], [4, 0, 0, 0, 0, 0, 0, 0, 0, 0, 0, 68, 69, 70, 71, 72, 73], [], [], [], [], [], [], [4, 75, 0, 0, 0, 0, 0, 0, 0, 0, 0, 77], [76, 0], [], [], [0, 0, 0, 0, 0, 0, 0, 79, 80, 81, 82, 83, 84, 85, 86, 87, 88, 89, 90, 91, 92, 93, 94, 95, 96, 97, 98, 99, 100, 101, 102, 103, 104, 105, 106, 107, 108, 109, 110, 0, 111, 112, 0, 0, 0, 0, 113, 114, 0], [], [], [], [], [], [], [], [], [], [], [], [], [], [], [], [], [], [], [], [], [], [], [], [], [], [], [], [], [], [], [], [], [], [], [], []]
def SH (q : Nat) : Nat × Nat := SHL.getD q (99, 0)
def HR (q j : Nat) : Nat := (HRL.getD q []).getD j 0
abbrev gC : Nat × Nat := (0, 78)
abbrev gM : Nat × Nat := (78, 37)
/-- contents of a fixed world: whole numbers; which letter stands at which place; the reference's long -/
abbrev HP : Type := (Nat → Nat → Int32) × (Nat → Nat) × Int64
def emb (h : HP) : Sg := (h.1, (fun q j => if q = 6 then some (h.2.1 j) else some (HR q j)), (fun q j => if q = 78 ∧ j = 48 then h.2.2 else 0))
def Ty (g : Nat × Nat) (q k len : Nat) : Prop := xIn g q ∧ SH q = (k, len)
abbrev SW (C : Cx) (g : Nat × Nat) (pc : Nat) (lv : List (Nat × Value)) (st : List Value) (h : HP) : Prop := AW C pc lv st (g, SH, emb h) 0 0
def si (h : HP) (q j : Nat) (x : Int32) : HP := (up2 h.1 q j x, h.2)
def sr (h : HP) (i r : Nat) : HP := (h.1, va_up h.2.1 i r, h.2.2)
def sl (h : HP) (x : Int64) : HP := (h.1, h.2.1, x)
theorem emb_si (h : HP) (q j : Nat) (x : Int32) : emb (si h q j x) = (up2 (emb h).1 q j x, (emb h).2) := rfl
theorem lm {lv : List (Nat × Value)} {x : Nat × Value} (i : Nat) (h : lv[i]? = some x) : x ∈ lv := List.mem_of_getElem? h
theorem x_subk {C : Cx} {pc : Nat} {lv lv' : List (Nat × Value)} {st : List Value} {w : Wd} {k n : Nat} (ks : List Nat) (h : lv_pick lv ks = lv') (kk : AW C pc lv' st w k n) : AW C pc lv st w k n := x_sub (fun q hq => by
  rw [← h] at hq
  obtain ⟨i, -, hi⟩ := List.mem_filterMap.mp hq
  exact List.mem_of_getElem? hi) kk
def FK (own : String) (idx ci j t : Nat) : Prop := FL own idx ci j ∧ (ci < 10 ∧ j < NF ci) ∧ FT ci j = t
def Lp1 {A : Type} (F : (A → Prop) → A → Prop) (a : A) : Prop := ∀ X : A → Prop, (∀ a, F X a → X a) → X a
def Lp2 {A B : Type} (F : (A → B → Prop) → A → B → Prop) (a : A) (b : B) : Prop := ∀ X : A → B → Prop, (∀ a b, F X a b → X a b) → X a b
def Lp3 {A B C : Type} (F : (A → B → C → Prop) → A → B → C → Prop) (a : A) (b : B) (c : C) : Prop := ∀ X : A → B → C → Prop, (∀ a b c, F X a b c → X a b c) → X a b c
def Lp4 {A B C D : Type} (F : (A → B → C → D → Prop) → A → B → C → D → Prop) (a : A) (b : B) (c : C) (d : D) : Prop := ∀ X : A → B → C → D → Prop, (∀ a b c d, F X a b c d → X a b c d) → X a b c d
def Lp5 {A B C D E : Type} (F : (A → B → C → D → E → Prop) → A → B → C → D → E → Prop) (a : A) (b : B) (c : C) (d : D) (e : E) : Prop := ∀ X : A → B → C → D → E → Prop, (∀ a b c d e, F X a b c d e → X a b c d e) → X a b c d e
def pI (Q : Int32 → HP → Prop) : Option Value → Sg → Prop := fun r b => ∃ (h : HP) (v : Int32), b = emb h ∧ r = some (.int v) ∧ Q v h
def pL (Q : Int64 → HP → Prop) : Option Value → Sg → Prop := fun r b => ∃ (h : HP) (v : Int64), b = emb h ∧ r = some (.long v) ∧ Q v h
def pR (Q : Nat → HP → Prop) : Option Value → Sg → Prop := fun r b => ∃ (h : HP) (v : Nat), b = emb h ∧ r = some (.ref v) ∧ Q v h
def pV (Q : HP → Prop) : Option Value → Sg → Prop := fun r b => ∃ h : HP, b = emb h ∧ r = none ∧ Q h
section XS
variable {C : Cx} {cc : ByteArray} {own : String} {nL : Nat} {rm : Room} {rt : Option FieldType} {pc : Nat} {lv : List (Nat × Value)} {st : List Value} {h : HP} {g : Nat × Nat} {q j ci idx : Nat}
theorem s_getI (hC : xOk C cc own nL rm rt) (hd : decode cc pc = .ok (.getfield idx, 3)) (hl : FK own idx ci j 0) (hq : Ty g q ci 0) (kk : SW C g (pc + 3) lv (.int (h.1 q j) :: st) h) : SW C g pc lv (.ref q :: st) h := x_getI hC hd hl.1 hl.2.1 (Or.inl hl.2.2) ⟨hq.1, congrArg Prod.fst hq.2⟩ kk
theorem s_getZ (hC : xOk C cc own nL rm rt) (hd : decode cc pc = .ok (.getfield idx, 3)) (hl : FK own idx ci j 3) (hq : Ty g q ci 0) (kk : SW C g (pc + 3) lv (.int (h.1 q j) :: st) h) : SW C g pc lv (.ref q :: st) h := x_getI hC hd hl.1 hl.2.1 (Or.inr hl.2.2) ⟨hq.1, congrArg Prod.fst hq.2⟩ kk
theorem s_getL (hC : xOk C cc own nL rm rt) (hd : decode cc pc = .ok (.getfield idx, 3)) (hl : FK own idx 9 48 2) (hq : Ty g 78 9 0) (kk : SW C g (pc + 3) lv (.long h.2.2 :: st) h) : SW C g pc lv (.ref 78 :: st) h := x_getL hC hd hl.1 hl.2.1 hl.2.2 ⟨hq.1, congrArg Prod.fst hq.2⟩ kk
theorem s_getR (hC : xOk C cc own nL rm rt) (hd : decode cc pc = .ok (.getfield idx, 3)) (hl : FK own idx ci j 1) (hq : Ty g q ci 0) {r : Nat} (hr : HR q j = r) (kk : SW C g (pc + 3) lv (.ref r :: st) h) : SW C g pc lv (.ref q :: st) h := by
  have hne : q ≠ 6 := by
    rintro rfl
    have h1 := congrArg Prod.fst hq.2
    have h2 := hl.2.1.1
    have h3 : (SH 6).1 = 24 := by decide +kernel
    rw [h3] at h1
    simp only at h1
    omega
  exact x_getR hC hd hl.1 hl.2.1 hl.2.2 ⟨hq.1, congrArg Prod.fst hq.2⟩ (by show (if q = 6 then _ else _) = _; rw [if_neg hne, hr]) kk
theorem s_putI (hC : xOk C cc own nL rm rt) (hd : decode cc pc = .ok (.putfield idx, 3)) (hl : FK own idx ci j 0) (ht : TYf ci j = .int) (hfin : (TTf ci j).2.2.2 = false) {x : Int32} (hq : Ty g q ci 0) (kk : SW C g (pc + 3) lv st (si h q j x)) : SW C g pc lv (.int x :: .ref q :: st) h := x_putI hC hd hl.1 hl.2.1 hfin (Or.inl hl.2.2) (by rw [ht]; exact vp_nar_int x) (by rw [ht]; rfl) ⟨hq.1, congrArg Prod.fst hq.2⟩ kk
theorem s_putZ (hC : xOk C cc own nL rm rt) (hd : decode cc pc = .ok (.putfield idx, 3)) (hl : FK own idx ci j 3) (ht : TYf ci j = .boolean) (hfin : (TTf ci j).2.2.2 = false) {x : Int32} (hx : x = 0 ∨ x = 1) (hq : Ty g q ci 0) (kk : SW C g (pc + 3) lv st (si h q j x)) : SW C g pc lv (.int x :: .ref q :: st) h := x_putI hC hd hl.1 hl.2.1 hfin (Or.inr hl.2.2) (by rw [ht]; rcases hx with rfl | rfl <;> rfl) (by rw [ht]; rcases hx with rfl | rfl <;> rfl) ⟨hq.1, congrArg Prod.fst hq.2⟩ kk
theorem s_putL (hC : xOk C cc own nL rm rt) (hd : decode cc pc = .ok (.putfield idx, 3)) (hl : FK own idx 9 48 2) {x : Int64} (hq : Ty g 78 9 0) (kk : SW C g (pc + 3) lv st (sl h x)) : SW C g pc lv (.long x :: .ref 78 :: st) h := by
  refine x_putL hC hd hl.1 hl.2.1 rfl hl.2.2 rfl rfl ⟨hq.1, congrArg Prod.fst hq.2⟩ ?_
  have e : ((emb h).1, (emb h).2.1, up2 (emb h).2.2 78 48 x) = emb (sl h x) := by
    refine congrArg (fun z => ((emb h).1, (emb h).2.1, z)) ?_
    funext a b
    by_cases hab : a = 78 ∧ b = 48 <;> simp [up2, emb, sl, hab]
  rw [e]
  exact kk
theorem s_iald (hC : xOk C cc own nL rm rt) (hd : decode cc pc = .ok (.iaload, 1)) {len : Nat} (hq : Ty g q 20 len) {i : Int32} (hi : vp_in i len) (kk : SW C g (pc + 1) lv (.int (h.1 q i.toNatClampNeg) :: st) h) : SW C g pc lv (.int i :: .ref q :: st) h := x_iald hC hd ⟨hq.1, hq.2⟩ hi kk
theorem s_zald (hC : xOk C cc own nL rm rt) (hd : decode cc pc = .ok (.baload, 1)) {len : Nat} (hq : Ty g q 21 len) {i : Int32} (hi : vp_in i len) (kk : SW C g (pc + 1) lv (.int (h.1 q i.toNatClampNeg) :: st) h) : SW C g pc lv (.int i :: .ref q :: st) h := x_zald hC hd ⟨hq.1, hq.2⟩ hi kk
theorem s_iast (hC : xOk C cc own nL rm rt) (hd : decode cc pc = .ok (.iastore, 1)) {len : Nat} (hq : Ty g q 20 len) {i x : Int32} (hi : vp_in i len) (kk : SW C g (pc + 1) lv st (si h q i.toNatClampNeg x)) : SW C g pc lv (.int x :: .int i :: .ref q :: st) h := x_iast hC hd ⟨hq.1, hq.2⟩ hi kk
theorem s_zast (hC : xOk C cc own nL rm rt) (hd : decode cc pc = .ok (.bastore, 1)) {len : Nat} (hq : Ty g q 21 len) {i x y : Int32} (hi : vp_in i len) (hy : vp_nar .boolean x = y) (kk : SW C g (pc + 1) lv st (si h q i.toNatClampNeg y)) : SW C g pc lv (.int x :: .int i :: .ref q :: st) h := x_zast hC hd ⟨hq.1, hq.2⟩ hi hy kk
theorem s_aald (hC : xOk C cc own nL rm rt) (hd : decode cc pc = .ok (.aaload, 1)) {len r : Nat} (hc : ci = 1 ∨ ci = 2 ∨ ci = 3) (hne : q ≠ 6) (hq : Ty g q (22 + ci) len) {i : Int32} (hi : vp_in i len) (hr : HR q i.toNatClampNeg = r) (kk : SW C g (pc + 1) lv (.ref r :: st) h) : SW C g pc lv (.int i :: .ref q :: st) h := x_aald hC hd hc ⟨hq.1, hq.2⟩ hi (by show (if q = 6 then _ else _) = _; rw [if_neg hne, hr]) kk
theorem s_aaldL (hC : xOk C cc own nL rm rt) (hd : decode cc pc = .ok (.aaload, 1)) (hq : Ty g 6 (22 + 2) 5) {i : Int32} (hi : vp_in i 5) (kk : SW C g (pc + 1) lv (.ref (h.2.1 i.toNatClampNeg) :: st) h) : SW C g pc lv (.int i :: .ref 6 :: st) h := x_aald hC hd (by decide) ⟨hq.1, hq.2⟩ hi rfl kk
theorem s_aastL (hC : xOk C cc own nL rm rt) (hd : decode cc pc = .ok (.aastore, 1)) (hq : Ty g 6 (22 + 2) 5) {i : Int32} {r : Nat} (hr : Ty g r 2 0) (hi : vp_in i 5) (kk : SW C g (pc + 1) lv st (sr h i.toNatClampNeg r)) : SW C g pc lv (.ref r :: .int i :: .ref 6 :: st) h := by
  refine x_aast hC hd (ci := 2) (by decide) ⟨hq.1, hq.2⟩ ⟨hr.1, congrArg Prod.fst hr.2⟩ hi ?_
  have e : ((emb h).1, up2 (emb h).2.1 6 i.toNatClampNeg (some r), (emb h).2.2) = emb (sr h i.toNatClampNeg r) := by
    refine congrArg (fun z => ((emb h).1, z, (emb h).2.2)) ?_
    funext a b
    by_cases ha : a = 6 <;> by_cases hb : b = i.toNatClampNeg <;> simp [up2, emb, sr, va_up, ha, hb]
  rw [e]
  exact kk
def lowI (i : Nat) : Int32 := ([49, 43, 48, 42, 49, 58, 49] : List Int32).getD i 0
def highI (i : Nat) : Int32 := ([57, 43, 57, 42, 57, 58, 56] : List Int32).getD i 0
theorem x_gets900 {w : Wd} {k n : Nat} (hC : xOk C cc own nL rm rt) (hd : decode cc pc = .ok (.getstatic idx, 3)) (hl : Cond.fieldLink own idx RX5 "LOWEST" "[I" ∈ BIG) (kk : AW C (pc + 3) lv (.ref 900 :: st) w k n) : AW C pc lv st w k n := by
  obtain ⟨p, l, e, R, s, m, args, below, meth, c, D, cA, A, nL', G, Q⟩ := C
  obtain ⟨hx, hb, -, hown, hts, -⟩ := hC
  intro ad H locs ls hG hT hP hA hS hl'
  exact va_gets hx hb hT.1.1 hS hown (hts _ hl) (fun _ h => h) hd (kk ad H locs ls hG hT hP hA hS hl')
theorem x_ti900 {w : Wd} {k n : Nat} (hC : xOk C cc own nL rm rt) (hd : decode cc pc = .ok (.iaload, 1)) {i : Int32} (hi : vp_in i 7) (kk : AW C (pc + 1) lv (.int (lowI i.toNatClampNeg) :: st) w k n) : AW C pc lv (.int i :: .ref 900 :: st) w k n := by
  obtain ⟨p, l, e, R, s, m, args, below, meth, c, D, cA, A, nL', G, Q⟩ := C
  obtain ⟨hx, hb, -⟩ := hC
  intro ad H locs ls hG hT hP hA hS hl'
  exact va_ti hx hb hT.1.2 hS hi rfl hd (kk ad H locs ls hG hT hP hA hS hl')
theorem x_tlen900 {w : Wd} {k n : Nat} (hC : xOk C cc own nL rm rt) (hd : decode cc pc = .ok (.arraylength, 1)) (kk : AW C (pc + 1) lv (.int 7 :: st) w k n) : AW C pc lv (.ref 900 :: st) w k n := by
  obtain ⟨p, l, e, R, s, m, args, below, meth, c, D, cA, A, nL', G, Q⟩ := C
  obtain ⟨hx, hb, -⟩ := hC
  intro ad H locs ls hG hT hP hA hS hl'
  exact va_tlen hx hb hT.1.2 hS (by decide) hd (kk ad H locs ls hG hT hP hA hS hl')
theorem x_gets901 {w : Wd} {k n : Nat} (hC : xOk C cc own nL rm rt) (hd : decode cc pc = .ok (.getstatic idx, 3)) (hl : Cond.fieldLink own idx RX5 "HIGHEST" "[I" ∈ BIG) (kk : AW C (pc + 3) lv (.ref 901 :: st) w k n) : AW C pc lv st w k n := by
  obtain ⟨p, l, e, R, s, m, args, below, meth, c, D, cA, A, nL', G, Q⟩ := C
  obtain ⟨hx, hb, -, hown, hts, -⟩ := hC
  intro ad H locs ls hG hT hP hA hS hl'
  exact va_gets hx hb hT.2.1 hS hown (hts _ hl) (fun _ h => h) hd (kk ad H locs ls hG hT hP hA hS hl')
theorem x_ti901 {w : Wd} {k n : Nat} (hC : xOk C cc own nL rm rt) (hd : decode cc pc = .ok (.iaload, 1)) {i : Int32} (hi : vp_in i 7) (kk : AW C (pc + 1) lv (.int (highI i.toNatClampNeg) :: st) w k n) : AW C pc lv (.int i :: .ref 901 :: st) w k n := by
  obtain ⟨p, l, e, R, s, m, args, below, meth, c, D, cA, A, nL', G, Q⟩ := C
  obtain ⟨hx, hb, -⟩ := hC
  intro ad H locs ls hG hT hP hA hS hl'
  exact va_ti hx hb hT.2.2 hS hi rfl hd (kk ad H locs ls hG hT hP hA hS hl')
theorem x_tlen901 {w : Wd} {k n : Nat} (hC : xOk C cc own nL rm rt) (hd : decode cc pc = .ok (.arraylength, 1)) (kk : AW C (pc + 1) lv (.int 7 :: st) w k n) : AW C pc lv (.ref 901 :: st) w k n := by
  obtain ⟨p, l, e, R, s, m, args, below, meth, c, D, cA, A, nL', G, Q⟩ := C
  obtain ⟨hx, hb, -⟩ := hC
  intro ad H locs ls hG hT hP hA hS hl'
  exact va_tlen hx hb hT.2.2 hS (by decide) hd (kk ad H locs ls hG hT hP hA hS hl')
theorem x_mmin {w : Wd} {k n : Nat} (hC : xOk C cc own nL rm rt) (hd : decode cc pc = .ok (.invokestatic idx, 3)) (hl : Cond.methodLink own idx Lib.Math.min.name ∈ BIG) (hs : Cond.static Lib.Math.min.name ∈ BIG) (hi : Cond.initialized "java/lang/Math" ∈ BIG) (hcd : Cond.code Lib.Math.min.name Lib.Math.min.code 2 (some .int) ∈ BIG) (hf : 1 ≤ rm.frames) (hlo : (st.map fun v => v.category).sum + 13 ≤ rm.locals) (hk : k ≤ rm.cells) (hn : n ≤ rm.slots) {x y : Int32} (kk : AW C (pc + 3) lv (.int (if y < x then y else x) :: st) w k n) : AW C pc lv (.int y :: .int x :: st) w k n := by
  obtain ⟨p, l, e, R, s, m, args, below, meth, c, D, cA, A, nL', G, Q⟩ := C
  obtain ⟨hx, hb, ⟨hml, hnl⟩, hown, hts, -, -, -, hRR, -⟩ := hC
  subst hRR; subst hnl
  intro ad H locs ls hG hT hP hA hS hl'
  exact va_mmin hx hb (by rw [hml]; exact hl'.1.symm) hown (hts _ hl) (hts _ hs) (hts _ hi) (hts _ hcd) hf (by rw [cat_map]; exact hlo) hk hn hd (kk ad H locs ls hG hT hP hA hS hl')
theorem x_ldc2 {w : Wd} {k n : Nat} (hC : xOk C cc own nL rm rt) {v : Int64} (hd : decode cc pc = .ok (.ldc2_w idx, 3)) (hl : Cond.constantLong own idx v ∈ BIG) (kk : AW C (pc + 3) lv (.long v :: st) w k n) : AW C pc lv st w k n := by
  obtain ⟨p, l, e, R, s, m, args, below, meth, c, D, cA, A, nL', G, Q⟩ := C
  obtain ⟨hx, hb, -, hown, hts, -⟩ := hC
  intro ad H locs ls hG hT hP hA hS hl'
  exact lv_ldc2 hx hb hown (hts _ hl) hd (kk ad H locs ls hG hT hP hA hS hl')
theorem s_callVi {y : MethodName} {bytes : ByteArray} {maxL nA : Nat} {ret : Option FieldType} {rmy : Room} {avs : List Value} {Qq : Int32 → HP → Prop} (hC : xOk C cc own nL rm rt) (hd : decode cc pc = .ok (.invokevirtual idx, 3)) (hl : Cond.methodLink own idx y ∈ BIG) (hI : MI y ci bytes maxL ret nA) (hq : Ty g q ci 0) (hn : avs.length = nA) (hM : MT y bytes maxL ret rmy (.ref q :: avs) g SH (emb h) (pI Qq)) (hc : (st.map fun v => v.category).sum ≤ 8) (hz : rmy.cells = 0 ∧ rmy.slots = 0) (hR : rmy.frames + 1 ≤ rm.frames ∧ 8 + (maxL + 11) + rmy.locals ≤ rm.locals) (kk : ∀ (v : Int32) (h1 : HP), Qq v h1 → SW C g (pc + 3) lv (.int v :: st) h1) : SW C g pc lv (avs.reverse ++ .ref q :: st) h :=
  x_callV hC hd hl hI hn hM ⟨hq.1, congrArg Prod.fst hq.2⟩ hc hz hR (fun r b hp => by obtain ⟨h1, v, rfl, rfl, hQ⟩ := hp; exact kk v h1 hQ)
theorem s_callVl {y : MethodName} {bytes : ByteArray} {maxL nA : Nat} {ret : Option FieldType} {rmy : Room} {avs : List Value} {Qq : Int64 → HP → Prop} (hC : xOk C cc own nL rm rt) (hd : decode cc pc = .ok (.invokevirtual idx, 3)) (hl : Cond.methodLink own idx y ∈ BIG) (hI : MI y ci bytes maxL ret nA) (hq : Ty g q ci 0) (hn : avs.length = nA) (hM : MT y bytes maxL ret rmy (.ref q :: avs) g SH (emb h) (pL Qq)) (hc : (st.map fun v => v.category).sum ≤ 8) (hz : rmy.cells = 0 ∧ rmy.slots = 0) (hR : rmy.frames + 1 ≤ rm.frames ∧ 8 + (maxL + 11) + rmy.locals ≤ rm.locals) (kk : ∀ (v : Int64) (h1 : HP), Qq v h1 → SW C g (pc + 3) lv (.long v :: st) h1) : SW C g pc lv (avs.reverse ++ .ref q :: st) h :=
  x_callV hC hd hl hI hn hM ⟨hq.1, congrArg Prod.fst hq.2⟩ hc hz hR (fun r b hp => by obtain ⟨h1, v, rfl, rfl, hQ⟩ := hp; exact kk v h1 hQ)
theorem s_callVr {y : MethodName} {bytes : ByteArray} {maxL nA : Nat} {ret : Option FieldType} {rmy : Room} {avs : List Value} {Qq : Nat → HP → Prop} (hC : xOk C cc own nL rm rt) (hd : decode cc pc = .ok (.invokevirtual idx, 3)) (hl : Cond.methodLink own idx y ∈ BIG) (hI : MI y ci bytes maxL ret nA) (hq : Ty g q ci 0) (hn : avs.length = nA) (hM : MT y bytes maxL ret rmy (.ref q :: avs) g SH (emb h) (pR Qq)) (hc : (st.map fun v => v.category).sum ≤ 8) (hz : rmy.cells = 0 ∧ rmy.slots = 0) (hR : rmy.frames + 1 ≤ rm.frames ∧ 8 + (maxL + 11) + rmy.locals ≤ rm.locals) (kk : ∀ (v : Nat) (h1 : HP), Qq v h1 → SW C g (pc + 3) lv (.ref v :: st) h1) : SW C g pc lv (avs.reverse ++ .ref q :: st) h :=
  x_callV hC hd hl hI hn hM ⟨hq.1, congrArg Prod.fst hq.2⟩ hc hz hR (fun r b hp => by obtain ⟨h1, v, rfl, rfl, hQ⟩ := hp; exact kk v h1 hQ)
theorem s_callVv {y : MethodName} {bytes : ByteArray} {maxL nA : Nat} {ret : Option FieldType} {rmy : Room} {avs : List Value} {Qq : HP → Prop} (hC : xOk C cc own nL rm rt) (hd : decode cc pc = .ok (.invokevirtual idx, 3)) (hl : Cond.methodLink own idx y ∈ BIG) (hI : MI y ci bytes maxL ret nA) (hq : Ty g q ci 0) (hn : avs.length = nA) (hM : MT y bytes maxL ret rmy (.ref q :: avs) g SH (emb h) (pV Qq)) (hc : (st.map fun v => v.category).sum ≤ 8) (hz : rmy.cells = 0 ∧ rmy.slots = 0) (hR : rmy.frames + 1 ≤ rm.frames ∧ 8 + (maxL + 11) + rmy.locals ≤ rm.locals) (kk : ∀ (h1 : HP), Qq h1 → SW C g (pc + 3) lv (st) h1) : SW C g pc lv (avs.reverse ++ .ref q :: st) h :=
  x_callV hC hd hl hI hn hM ⟨hq.1, congrArg Prod.fst hq.2⟩ hc hz hR (fun r b hp => by obtain ⟨h1, rfl, rfl, hQ⟩ := hp; exact kk h1 hQ)
theorem s_callSi {y : MethodName} {bytes : ByteArray} {maxL nA : Nat} {ret : Option FieldType} {rmy : Room} {avs : List Value} {Qq : Int32 → HP → Prop} (hC : xOk C cc own nL rm rt) (hd : decode cc pc = .ok (.invokestatic idx, 3)) (hl : Cond.methodLink own idx y ∈ BIG) (hI : MS y bytes maxL ret nA) (hn : avs.length = nA) (hM : MT y bytes maxL ret rmy avs g SH (emb h) (pI Qq)) (hc : (st.map fun v => v.category).sum ≤ 8) (hz : rmy.cells = 0 ∧ rmy.slots = 0) (hR : rmy.frames + 1 ≤ rm.frames ∧ 8 + (maxL + 11) + rmy.locals ≤ rm.locals) (kk : ∀ (v : Int32) (h1 : HP), Qq v h1 → SW C g (pc + 3) lv (.int v :: st) h1) : SW C g pc lv (avs.reverse ++ st) h :=
  x_callS hC hd hl hI hn hM hc hz hR (fun r b hp => by obtain ⟨h1, v, rfl, rfl, hQ⟩ := hp; exact kk v h1 hQ)
theorem s_callSl {y : MethodName} {bytes : ByteArray} {maxL nA : Nat} {ret : Option FieldType} {rmy : Room} {avs : List Value} {Qq : Int64 → HP → Prop} (hC : xOk C cc own nL rm rt) (hd : decode cc pc = .ok (.invokestatic idx, 3)) (hl : Cond.methodLink own idx y ∈ BIG) (hI : MS y bytes maxL ret nA) (hn : avs.length = nA) (hM : MT y bytes maxL ret rmy avs g SH (emb h) (pL Qq)) (hc : (st.map fun v => v.category).sum ≤ 8) (hz : rmy.cells = 0 ∧ rmy.slots = 0) (hR : rmy.frames + 1 ≤ rm.frames ∧ 8 + (maxL + 11) + rmy.locals ≤ rm.locals) (kk : ∀ (v : Int64) (h1 : HP), Qq v h1 → SW C g (pc + 3) lv (.long v :: st) h1) : SW C g pc lv (avs.reverse ++ st) h :=
  x_callS hC hd hl hI hn hM hc hz hR (fun r b hp => by obtain ⟨h1, v, rfl, rfl, hQ⟩ := hp; exact kk v h1 hQ)
theorem s_callSr {y : MethodName} {bytes : ByteArray} {maxL nA : Nat} {ret : Option FieldType} {rmy : Room} {avs : List Value} {Qq : Nat → HP → Prop} (hC : xOk C cc own nL rm rt) (hd : decode cc pc = .ok (.invokestatic idx, 3)) (hl : Cond.methodLink own idx y ∈ BIG) (hI : MS y bytes maxL ret nA) (hn : avs.length = nA) (hM : MT y bytes maxL ret rmy avs g SH (emb h) (pR Qq)) (hc : (st.map fun v => v.category).sum ≤ 8) (hz : rmy.cells = 0 ∧ rmy.slots = 0) (hR : rmy.frames + 1 ≤ rm.frames ∧ 8 + (maxL + 11) + rmy.locals ≤ rm.locals) (kk : ∀ (v : Nat) (h1 : HP), Qq v h1 → SW C g (pc + 3) lv (.ref v :: st) h1) : SW C g pc lv (avs.reverse ++ st) h :=
  x_callS hC hd hl hI hn hM hc hz hR (fun r b hp => by obtain ⟨h1, v, rfl, rfl, hQ⟩ := hp; exact kk v h1 hQ)
theorem s_callSv {y : MethodName} {bytes : ByteArray} {maxL nA : Nat} {ret : Option FieldType} {rmy : Room} {avs : List Value} {Qq : HP → Prop} (hC : xOk C cc own nL rm rt) (hd : decode cc pc = .ok (.invokestatic idx, 3)) (hl : Cond.methodLink own idx y ∈ BIG) (hI : MS y bytes maxL ret nA) (hn : avs.length = nA) (hM : MT y bytes maxL ret rmy avs g SH (emb h) (pV Qq)) (hc : (st.map fun v => v.category).sum ≤ 8) (hz : rmy.cells = 0 ∧ rmy.slots = 0) (hR : rmy.frames + 1 ≤ rm.frames ∧ 8 + (maxL + 11) + rmy.locals ≤ rm.locals) (kk : ∀ (h1 : HP), Qq h1 → SW C g (pc + 3) lv (st) h1) : SW C g pc lv (avs.reverse ++ st) h :=
  x_callS hC hd hl hI hn hM hc hz hR (fun r b hp => by obtain ⟨h1, rfl, rfl, hQ⟩ := hp; exact kk h1 hQ)
theorem s_callNi {y : MethodName} {bytes : ByteArray} {maxL nA : Nat} {ret : Option FieldType} {rmy : Room} {avs : List Value} {Qq : Int32 → HP → Prop} (hC : xOk C cc own nL rm rt) (hd : decode cc pc = .ok (.invokestatic idx, 3)) {host : String} (hl : Cond.methodLinkNest own idx y host ∈ lw_tbl.filter isNest) (hI : MS y bytes maxL ret nA) (hn : avs.length = nA) (hM : MT y bytes maxL ret rmy avs g SH (emb h) (pI Qq)) (hc : (st.map fun v => v.category).sum ≤ 8) (hz : rmy.cells = 0 ∧ rmy.slots = 0) (hR : rmy.frames + 1 ≤ rm.frames ∧ 8 + (maxL + 11) + rmy.locals ≤ rm.locals) (kk : ∀ (v : Int32) (h1 : HP), Qq v h1 → SW C g (pc + 3) lv (.int v :: st) h1) : SW C g pc lv (avs.reverse ++ st) h :=
  x_callSN hC hd hl hI hn hM hc hz hR (fun r b hp => by obtain ⟨h1, v, rfl, rfl, hQ⟩ := hp; exact kk v h1 hQ)
theorem s_callNl {y : MethodName} {bytes : ByteArray} {maxL nA : Nat} {ret : Option FieldType} {rmy : Room} {avs : List Value} {Qq : Int64 → HP → Prop} (hC : xOk C cc own nL rm rt) (hd : decode cc pc = .ok (.invokestatic idx, 3)) {host : String} (hl : Cond.methodLinkNest own idx y host ∈ lw_tbl.filter isNest) (hI : MS y bytes maxL ret nA) (hn : avs.length = nA) (hM : MT y bytes maxL ret rmy avs g SH (emb h) (pL Qq)) (hc : (st.map fun v => v.category).sum ≤ 8) (hz : rmy.cells = 0 ∧ rmy.slots = 0) (hR : rmy.frames + 1 ≤ rm.frames ∧ 8 + (maxL + 11) + rmy.locals ≤ rm.locals) (kk : ∀ (v : Int64) (h1 : HP), Qq v h1 → SW C g (pc + 3) lv (.long v :: st) h1) : SW C g pc lv (avs.reverse ++ st) h :=
  x_callSN hC hd hl hI hn hM hc hz hR (fun r b hp => by obtain ⟨h1, v, rfl, rfl, hQ⟩ := hp; exact kk v h1 hQ)
theorem s_callNr {y : MethodName} {bytes : ByteArray} {maxL nA : Nat} {ret : Option FieldType} {rmy : Room} {avs : List Value} {Qq : Nat → HP → Prop} (hC : xOk C cc own nL rm rt) (hd : decode cc pc = .ok (.invokestatic idx, 3)) {host : String} (hl : Cond.methodLinkNest own idx y host ∈ lw_tbl.filter isNest) (hI : MS y bytes maxL ret nA) (hn : avs.length = nA) (hM : MT y bytes maxL ret rmy avs g SH (emb h) (pR Qq)) (hc : (st.map fun v => v.category).sum ≤ 8) (hz : rmy.cells = 0 ∧ rmy.slots = 0) (hR : rmy.frames + 1 ≤ rm.frames ∧ 8 + (maxL + 11) + rmy.locals ≤ rm.locals) (kk : ∀ (v : Nat) (h1 : HP), Qq v h1 → SW C g (pc + 3) lv (.ref v :: st) h1) : SW C g pc lv (avs.reverse ++ st) h :=
  x_callSN hC hd hl hI hn hM hc hz hR (fun r b hp => by obtain ⟨h1, v, rfl, rfl, hQ⟩ := hp; exact kk v h1 hQ)
theorem s_callNv {y : MethodName} {bytes : ByteArray} {maxL nA : Nat} {ret : Option FieldType} {rmy : Room} {avs : List Value} {Qq : HP → Prop} (hC : xOk C cc own nL rm rt) (hd : decode cc pc = .ok (.invokestatic idx, 3)) {host : String} (hl : Cond.methodLinkNest own idx y host ∈ lw_tbl.filter isNest) (hI : MS y bytes maxL ret nA) (hn : avs.length = nA) (hM : MT y bytes maxL ret rmy avs g SH (emb h) (pV Qq)) (hc : (st.map fun v => v.category).sum ≤ 8) (hz : rmy.cells = 0 ∧ rmy.slots = 0) (hR : rmy.frames + 1 ≤ rm.frames ∧ 8 + (maxL + 11) + rmy.locals ≤ rm.locals) (kk : ∀ (h1 : HP), Qq h1 → SW C g (pc + 3) lv (st) h1) : SW C g pc lv (avs.reverse ++ st) h :=
  x_callSN hC hd hl hI hn hM hc hz hR (fun r b hp => by obtain ⟨h1, rfl, rfl, hQ⟩ := hp; exact kk h1 hQ)
end XS
theorem fr_1_0 {q : Nat} (h : Ty gC q 1 0) : HR q 0 = 4 ∧ Ty gC (4) 7 0 := by
  have key : ∀ q, q < 115 → SH q = (1, 0) → HR q 0 = 4 ∧ (gC.1 ≤ (4) ∧ (4) < gC.1 + gC.2) ∧ SH (4) = (7, 0) := by decide +kernel
  exact key q (by have := h.1.2; simp at this; omega) h.2
theorem fr_1_1 {q : Nat} (h : Ty gC q 1 0) : HR q 1 = q + 1 ∧ Ty gC (q + 1) 4 0 := by
  have key : ∀ q, q < 115 → SH q = (1, 0) → HR q 1 = q + 1 ∧ (gC.1 ≤ (q + 1) ∧ (q + 1) < gC.1 + gC.2) ∧ SH (q + 1) = (4, 0) := by decide +kernel
  exact key q (by have := h.1.2; simp at this; omega) h.2
theorem fr_1_11 {q : Nat} (h : Ty gC q 1 0) : HR q 11 = q + 3 ∧ Ty gC (q + 3) 20 16 := by
  have key : ∀ q, q < 115 → SH q = (1, 0) → HR q 11 = q + 3 ∧ (gC.1 ≤ (q + 3) ∧ (q + 3) < gC.1 + gC.2) ∧ SH (q + 3) = (20, 16) := by decide +kernel
  exact key q (by have := h.1.2; simp at this; omega) h.2
theorem fr_2_8 {q : Nat} (h : Ty gC q 2 0) : HR q 8 = q + 1 ∧ Ty gC (q + 1) 20 8 := by
  have key : ∀ q, q < 115 → SH q = (2, 0) → HR q 8 = q + 1 ∧ (gC.1 ≤ (q + 1) ∧ (q + 1) < gC.1 + gC.2) ∧ SH (q + 1) = (20, 8) := by decide +kernel
  exact key q (by have := h.1.2; simp at this; omega) h.2
theorem fr_2_9 {q : Nat} (h : Ty gC q 2 0) : HR q 9 = q + 2 ∧ Ty gC (q + 2) 20 8 := by
  have key : ∀ q, q < 115 → SH q = (2, 0) → HR q 9 = q + 2 ∧ (gC.1 ≤ (q + 2) ∧ (q + 2) < gC.1 + gC.2) ∧ SH (q + 2) = (20, 8) := by decide +kernel
  exact key q (by have := h.1.2; simp at this; omega) h.2
theorem fr_2_10 {q : Nat} (h : Ty gC q 2 0) : HR q 10 = q + 3 ∧ Ty gC (q + 3) 20 8 := by
  have key : ∀ q, q < 115 → SH q = (2, 0) → HR q 10 = q + 3 ∧ (gC.1 ≤ (q + 3) ∧ (q + 3) < gC.1 + gC.2) ∧ SH (q + 3) = (20, 8) := by decide +kernel
  exact key q (by have := h.1.2; simp at this; omega) h.2
theorem fr_2_11 {q : Nat} (h : Ty gC q 2 0) : HR q 11 = q + 4 ∧ Ty gC (q + 4) 20 8 := by
  have key : ∀ q, q < 115 → SH q = (2, 0) → HR q 11 = q + 4 ∧ (gC.1 ≤ (q + 4) ∧ (q + 4) < gC.1 + gC.2) ∧ SH (q + 4) = (20, 8) := by decide +kernel
  exact key q (by have := h.1.2; simp at this; omega) h.2
theorem fr_3_0 {q : Nat} (h : Ty gC q 3 0) : HR q 0 = 4 ∧ Ty gC (4) 7 0 := by
  have key : ∀ q, q < 115 → SH q = (3, 0) → HR q 0 = 4 ∧ (gC.1 ≤ (4) ∧ (4) < gC.1 + gC.2) ∧ SH (4) = (7, 0) := by decide +kernel
  exact key q (by have := h.1.2; simp at this; omega) h.2
theorem fr_3_11 {q : Nat} (h : Ty gC q 3 0) : HR q 11 = q + 1 ∧ Ty gC (q + 1) 20 24 := by
  have key : ∀ q, q < 115 → SH q = (3, 0) → HR q 11 = q + 1 ∧ (gC.1 ≤ (q + 1) ∧ (q + 1) < gC.1 + gC.2) ∧ SH (q + 1) = (20, 24) := by decide +kernel
  exact key q (by have := h.1.2; simp at this; omega) h.2
theorem fr_3_12 {q : Nat} (h : Ty gC q 3 0) : HR q 12 = q + 2 ∧ Ty gC (q + 2) 20 24 := by
  have key : ∀ q, q < 115 → SH q = (3, 0) → HR q 12 = q + 2 ∧ (gC.1 ≤ (q + 2) ∧ (q + 2) < gC.1 + gC.2) ∧ SH (q + 2) = (20, 24) := by decide +kernel
  exact key q (by have := h.1.2; simp at this; omega) h.2
theorem fr_3_13 {q : Nat} (h : Ty gC q 3 0) : HR q 13 = q + 3 ∧ Ty gC (q + 3) 20 16 := by
  have key : ∀ q, q < 115 → SH q = (3, 0) → HR q 13 = q + 3 ∧ (gC.1 ≤ (q + 3) ∧ (q + 3) < gC.1 + gC.2) ∧ SH (q + 3) = (20, 16) := by decide +kernel
  exact key q (by have := h.1.2; simp at this; omega) h.2
theorem fr_3_14 {q : Nat} (h : Ty gC q 3 0) : HR q 14 = q + 4 ∧ Ty gC (q + 4) 20 16 := by
  have key : ∀ q, q < 115 → SH q = (3, 0) → HR q 14 = q + 4 ∧ (gC.1 ≤ (q + 4) ∧ (q + 4) < gC.1 + gC.2) ∧ SH (q + 4) = (20, 16) := by decide +kernel
  exact key q (by have := h.1.2; simp at this; omega) h.2
theorem fr_3_15 {q : Nat} (h : Ty gC q 3 0) : HR q 15 = q + 5 ∧ Ty gC (q + 5) 20 16 := by
  have key : ∀ q, q < 115 → SH q = (3, 0) → HR q 15 = q + 5 ∧ (gC.1 ≤ (q + 5) ∧ (q + 5) < gC.1 + gC.2) ∧ SH (q + 5) = (20, 16) := by decide +kernel
  exact key q (by have := h.1.2; simp at this; omega) h.2
theorem fr_3_16 {q : Nat} (h : Ty gC q 3 0) : HR q 16 = q + 6 ∧ Ty gC (q + 6) 21 16 := by
  have key : ∀ q, q < 115 → SH q = (3, 0) → HR q 16 = q + 6 ∧ (gC.1 ≤ (q + 6) ∧ (q + 6) < gC.1 + gC.2) ∧ SH (q + 6) = (21, 16) := by decide +kernel
  exact key q (by have := h.1.2; simp at this; omega) h.2
theorem fr_4_0 {q : Nat} (h : Ty gC q 4 0) : HR q 0 = q + 1 ∧ Ty gC (q + 1) 20 10 := by
  have key : ∀ q, q < 115 → SH q = (4, 0) → HR q 0 = q + 1 ∧ (gC.1 ≤ (q + 1) ∧ (q + 1) < gC.1 + gC.2) ∧ SH (q + 1) = (20, 10) := by decide +kernel
  exact key q (by have := h.1.2; simp at this; omega) h.2
theorem fr_5_0 {q : Nat} (h : Ty gC q 5 0) : HR q 0 = 2 ∧ Ty gC (2) 20 9 := by
  have key : ∀ q, q < 115 → SH q = (5, 0) → HR q 0 = 2 ∧ (gC.1 ≤ (2) ∧ (2) < gC.1 + gC.2) ∧ SH (2) = (20, 9) := by decide +kernel
  exact key q (by have := h.1.2; simp at this; omega) h.2
theorem fr_6_0 {q : Nat} (h : Ty gC q 6 0) : HR q 0 = 4 ∧ Ty gC (4) 7 0 := by
  have key : ∀ q, q < 115 → SH q = (6, 0) → HR q 0 = 4 ∧ (gC.1 ≤ (4) ∧ (4) < gC.1 + gC.2) ∧ SH (4) = (7, 0) := by decide +kernel
  exact key q (by have := h.1.2; simp at this; omega) h.2
theorem fr_6_1 {q : Nat} (h : Ty gC q 6 0) : HR q 1 = 6 ∧ Ty gC (6) 24 5 := by
  have key : ∀ q, q < 115 → SH q = (6, 0) → HR q 1 = 6 ∧ (gC.1 ≤ (6) ∧ (6) < gC.1 + gC.2) ∧ SH (6) = (24, 5) := by decide +kernel
  exact key q (by have := h.1.2; simp at this; omega) h.2
theorem fr_8_0 {q : Nat} (h : Ty gC q 8 0) : HR q 0 = 1 ∧ Ty gC (1) 5 0 := by
  have key : ∀ q, q < 115 → SH q = (8, 0) → HR q 0 = 1 ∧ (gC.1 ≤ (1) ∧ (1) < gC.1 + gC.2) ∧ SH (1) = (5, 0) := by decide +kernel
  exact key q (by have := h.1.2; simp at this; omega) h.2
theorem fr_8_1 {q : Nat} (h : Ty gC q 8 0) : HR q 1 = 3 ∧ Ty gC (3) 0 0 := by
  have key : ∀ q, q < 115 → SH q = (8, 0) → HR q 1 = 3 ∧ (gC.1 ≤ (3) ∧ (3) < gC.1 + gC.2) ∧ SH (3) = (0, 0) := by decide +kernel
  exact key q (by have := h.1.2; simp at this; omega) h.2
theorem fr_8_2 {q : Nat} (h : Ty gC q 8 0) : HR q 2 = 4 ∧ Ty gC (4) 7 0 := by
  have key : ∀ q, q < 115 → SH q = (8, 0) → HR q 2 = 4 ∧ (gC.1 ≤ (4) ∧ (4) < gC.1 + gC.2) ∧ SH (4) = (7, 0) := by decide +kernel
  exact key q (by have := h.1.2; simp at this; omega) h.2
theorem fr_8_3 {q : Nat} (h : Ty gC q 8 0) : HR q 3 = 5 ∧ Ty gC (5) 6 0 := by
  have key : ∀ q, q < 115 → SH q = (8, 0) → HR q 3 = 5 ∧ (gC.1 ≤ (5) ∧ (5) < gC.1 + gC.2) ∧ SH (5) = (6, 0) := by decide +kernel
  exact key q (by have := h.1.2; simp at this; omega) h.2
theorem fr_8_4 {q : Nat} (h : Ty gC q 8 0) : HR q 4 = 32 ∧ Ty gC (32) 25 4 := by
  have key : ∀ q, q < 115 → SH q = (8, 0) → HR q 4 = 32 ∧ (gC.1 ≤ (32) ∧ (32) < gC.1 + gC.2) ∧ SH (32) = (25, 4) := by decide +kernel
  exact key q (by have := h.1.2; simp at this; omega) h.2
theorem fr_8_5 {q : Nat} (h : Ty gC q 8 0) : HR q 5 = 33 ∧ Ty gC (33) 23 4 := by
  have key : ∀ q, q < 115 → SH q = (8, 0) → HR q 5 = 33 ∧ (gC.1 ≤ (33) ∧ (33) < gC.1 + gC.2) ∧ SH (33) = (23, 4) := by decide +kernel
  exact key q (by have := h.1.2; simp at this; omega) h.2
theorem fr_9_7 {q : Nat} (h : Ty gM q 9 0) : HR q 7 = 79 ∧ Ty gM (79) 20 9 := by
  have key : ∀ q, q < 115 → SH q = (9, 0) → HR q 7 = 79 ∧ (gM.1 ≤ (79) ∧ (79) < gM.1 + gM.2) ∧ SH (79) = (20, 9) := by decide +kernel
  exact key q (by have := h.1.2; simp at this; omega) h.2
theorem fr_9_8 {q : Nat} (h : Ty gM q 9 0) : HR q 8 = 80 ∧ Ty gM (80) 20 7 := by
  have key : ∀ q, q < 115 → SH q = (9, 0) → HR q 8 = 80 ∧ (gM.1 ≤ (80) ∧ (80) < gM.1 + gM.2) ∧ SH (80) = (20, 7) := by decide +kernel
  exact key q (by have := h.1.2; simp at this; omega) h.2
theorem fr_9_9 {q : Nat} (h : Ty gM q 9 0) : HR q 9 = 81 ∧ Ty gM (81) 20 4 := by
  have key : ∀ q, q < 115 → SH q = (9, 0) → HR q 9 = 81 ∧ (gM.1 ≤ (81) ∧ (81) < gM.1 + gM.2) ∧ SH (81) = (20, 4) := by decide +kernel
  exact key q (by have := h.1.2; simp at this; omega) h.2
theorem fr_9_10 {q : Nat} (h : Ty gM q 9 0) : HR q 10 = 82 ∧ Ty gM (82) 20 4 := by
  have key : ∀ q, q < 115 → SH q = (9, 0) → HR q 10 = 82 ∧ (gM.1 ≤ (82) ∧ (82) < gM.1 + gM.2) ∧ SH (82) = (20, 4) := by decide +kernel
  exact key q (by have := h.1.2; simp at this; omega) h.2
theorem fr_9_11 {q : Nat} (h : Ty gM q 9 0) : HR q 11 = 83 ∧ Ty gM (83) 20 4 := by
  have key : ∀ q, q < 115 → SH q = (9, 0) → HR q 11 = 83 ∧ (gM.1 ≤ (83) ∧ (83) < gM.1 + gM.2) ∧ SH (83) = (20, 4) := by decide +kernel
  exact key q (by have := h.1.2; simp at this; omega) h.2
theorem fr_9_12 {q : Nat} (h : Ty gM q 9 0) : HR q 12 = 84 ∧ Ty gM (84) 20 4 := by
  have key : ∀ q, q < 115 → SH q = (9, 0) → HR q 12 = 84 ∧ (gM.1 ≤ (84) ∧ (84) < gM.1 + gM.2) ∧ SH (84) = (20, 4) := by decide +kernel
  exact key q (by have := h.1.2; simp at this; omega) h.2
theorem fr_9_13 {q : Nat} (h : Ty gM q 9 0) : HR q 13 = 85 ∧ Ty gM (85) 20 4 := by
  have key : ∀ q, q < 115 → SH q = (9, 0) → HR q 13 = 85 ∧ (gM.1 ≤ (85) ∧ (85) < gM.1 + gM.2) ∧ SH (85) = (20, 4) := by decide +kernel
  exact key q (by have := h.1.2; simp at this; omega) h.2
theorem fr_9_14 {q : Nat} (h : Ty gM q 9 0) : HR q 14 = 86 ∧ Ty gM (86) 20 4 := by
  have key : ∀ q, q < 115 → SH q = (9, 0) → HR q 14 = 86 ∧ (gM.1 ≤ (86) ∧ (86) < gM.1 + gM.2) ∧ SH (86) = (20, 4) := by decide +kernel
  exact key q (by have := h.1.2; simp at this; omega) h.2
theorem fr_9_15 {q : Nat} (h : Ty gM q 9 0) : HR q 15 = 87 ∧ Ty gM (87) 20 4 := by
  have key : ∀ q, q < 115 → SH q = (9, 0) → HR q 15 = 87 ∧ (gM.1 ≤ (87) ∧ (87) < gM.1 + gM.2) ∧ SH (87) = (20, 4) := by decide +kernel
  exact key q (by have := h.1.2; simp at this; omega) h.2
theorem fr_9_16 {q : Nat} (h : Ty gM q 9 0) : HR q 16 = 88 ∧ Ty gM (88) 21 4 := by
  have key : ∀ q, q < 115 → SH q = (9, 0) → HR q 16 = 88 ∧ (gM.1 ≤ (88) ∧ (88) < gM.1 + gM.2) ∧ SH (88) = (21, 4) := by decide +kernel
  exact key q (by have := h.1.2; simp at this; omega) h.2
theorem fr_9_17 {q : Nat} (h : Ty gM q 9 0) : HR q 17 = 89 ∧ Ty gM (89) 21 4 := by
  have key : ∀ q, q < 115 → SH q = (9, 0) → HR q 17 = 89 ∧ (gM.1 ≤ (89) ∧ (89) < gM.1 + gM.2) ∧ SH (89) = (21, 4) := by decide +kernel
  exact key q (by have := h.1.2; simp at this; omega) h.2
theorem fr_9_18 {q : Nat} (h : Ty gM q 9 0) : HR q 18 = 90 ∧ Ty gM (90) 21 4 := by
  have key : ∀ q, q < 115 → SH q = (9, 0) → HR q 18 = 90 ∧ (gM.1 ≤ (90) ∧ (90) < gM.1 + gM.2) ∧ SH (90) = (21, 4) := by decide +kernel
  exact key q (by have := h.1.2; simp at this; omega) h.2
theorem fr_9_19 {q : Nat} (h : Ty gM q 9 0) : HR q 19 = 91 ∧ Ty gM (91) 20 4 := by
  have key : ∀ q, q < 115 → SH q = (9, 0) → HR q 19 = 91 ∧ (gM.1 ≤ (91) ∧ (91) < gM.1 + gM.2) ∧ SH (91) = (20, 4) := by decide +kernel
  exact key q (by have := h.1.2; simp at this; omega) h.2
theorem fr_9_20 {q : Nat} (h : Ty gM q 9 0) : HR q 20 = 92 ∧ Ty gM (92) 20 4 := by
  have key : ∀ q, q < 115 → SH q = (9, 0) → HR q 20 = 92 ∧ (gM.1 ≤ (92) ∧ (92) < gM.1 + gM.2) ∧ SH (92) = (20, 4) := by decide +kernel
  exact key q (by have := h.1.2; simp at this; omega) h.2
theorem fr_9_21 {q : Nat} (h : Ty gM q 9 0) : HR q 21 = 93 ∧ Ty gM (93) 20 96 := by
  have key : ∀ q, q < 115 → SH q = (9, 0) → HR q 21 = 93 ∧ (gM.1 ≤ (93) ∧ (93) < gM.1 + gM.2) ∧ SH (93) = (20, 96) := by decide +kernel
  exact key q (by have := h.1.2; simp at this; omega) h.2
theorem fr_9_22 {q : Nat} (h : Ty gM q 9 0) : HR q 22 = 94 ∧ Ty gM (94) 20 96 := by
  have key : ∀ q, q < 115 → SH q = (9, 0) → HR q 22 = 94 ∧ (gM.1 ≤ (94) ∧ (94) < gM.1 + gM.2) ∧ SH (94) = (20, 96) := by decide +kernel
  exact key q (by have := h.1.2; simp at this; omega) h.2
theorem fr_9_23 {q : Nat} (h : Ty gM q 9 0) : HR q 23 = 95 ∧ Ty gM (95) 20 256 := by
  have key : ∀ q, q < 115 → SH q = (9, 0) → HR q 23 = 95 ∧ (gM.1 ≤ (95) ∧ (95) < gM.1 + gM.2) ∧ SH (95) = (20, 256) := by decide +kernel
  exact key q (by have := h.1.2; simp at this; omega) h.2
theorem fr_9_24 {q : Nat} (h : Ty gM q 9 0) : HR q 24 = 96 ∧ Ty gM (96) 20 256 := by
  have key : ∀ q, q < 115 → SH q = (9, 0) → HR q 24 = 96 ∧ (gM.1 ≤ (96) ∧ (96) < gM.1 + gM.2) ∧ SH (96) = (20, 256) := by decide +kernel
  exact key q (by have := h.1.2; simp at this; omega) h.2
theorem fr_9_25 {q : Nat} (h : Ty gM q 9 0) : HR q 25 = 97 ∧ Ty gM (97) 20 256 := by
  have key : ∀ q, q < 115 → SH q = (9, 0) → HR q 25 = 97 ∧ (gM.1 ≤ (97) ∧ (97) < gM.1 + gM.2) ∧ SH (97) = (20, 256) := by decide +kernel
  exact key q (by have := h.1.2; simp at this; omega) h.2
theorem fr_9_26 {q : Nat} (h : Ty gM q 9 0) : HR q 26 = 98 ∧ Ty gM (98) 21 256 := by
  have key : ∀ q, q < 115 → SH q = (9, 0) → HR q 26 = 98 ∧ (gM.1 ≤ (98) ∧ (98) < gM.1 + gM.2) ∧ SH (98) = (21, 256) := by decide +kernel
  exact key q (by have := h.1.2; simp at this; omega) h.2
theorem fr_9_27 {q : Nat} (h : Ty gM q 9 0) : HR q 27 = 99 ∧ Ty gM (99) 21 4 := by
  have key : ∀ q, q < 115 → SH q = (9, 0) → HR q 27 = 99 ∧ (gM.1 ≤ (99) ∧ (99) < gM.1 + gM.2) ∧ SH (99) = (21, 4) := by decide +kernel
  exact key q (by have := h.1.2; simp at this; omega) h.2
theorem fr_9_28 {q : Nat} (h : Ty gM q 9 0) : HR q 28 = 100 ∧ Ty gM (100) 20 4 := by
  have key : ∀ q, q < 115 → SH q = (9, 0) → HR q 28 = 100 ∧ (gM.1 ≤ (100) ∧ (100) < gM.1 + gM.2) ∧ SH (100) = (20, 4) := by decide +kernel
  exact key q (by have := h.1.2; simp at this; omega) h.2
theorem fr_9_29 {q : Nat} (h : Ty gM q 9 0) : HR q 29 = 101 ∧ Ty gM (101) 20 4 := by
  have key : ∀ q, q < 115 → SH q = (9, 0) → HR q 29 = 101 ∧ (gM.1 ≤ (101) ∧ (101) < gM.1 + gM.2) ∧ SH (101) = (20, 4) := by decide +kernel
  exact key q (by have := h.1.2; simp at this; omega) h.2
theorem fr_9_30 {q : Nat} (h : Ty gM q 9 0) : HR q 30 = 102 ∧ Ty gM (102) 20 4 := by
  have key : ∀ q, q < 115 → SH q = (9, 0) → HR q 30 = 102 ∧ (gM.1 ≤ (102) ∧ (102) < gM.1 + gM.2) ∧ SH (102) = (20, 4) := by decide +kernel
  exact key q (by have := h.1.2; simp at this; omega) h.2
theorem fr_9_31 {q : Nat} (h : Ty gM q 9 0) : HR q 31 = 103 ∧ Ty gM (103) 20 4 := by
  have key : ∀ q, q < 115 → SH q = (9, 0) → HR q 31 = 103 ∧ (gM.1 ≤ (103) ∧ (103) < gM.1 + gM.2) ∧ SH (103) = (20, 4) := by decide +kernel
  exact key q (by have := h.1.2; simp at this; omega) h.2
theorem fr_9_32 {q : Nat} (h : Ty gM q 9 0) : HR q 32 = 104 ∧ Ty gM (104) 20 4 := by
  have key : ∀ q, q < 115 → SH q = (9, 0) → HR q 32 = 104 ∧ (gM.1 ≤ (104) ∧ (104) < gM.1 + gM.2) ∧ SH (104) = (20, 4) := by decide +kernel
  exact key q (by have := h.1.2; simp at this; omega) h.2
theorem fr_9_33 {q : Nat} (h : Ty gM q 9 0) : HR q 33 = 105 ∧ Ty gM (105) 20 4 := by
  have key : ∀ q, q < 115 → SH q = (9, 0) → HR q 33 = 105 ∧ (gM.1 ≤ (105) ∧ (105) < gM.1 + gM.2) ∧ SH (105) = (20, 4) := by decide +kernel
  exact key q (by have := h.1.2; simp at this; omega) h.2
theorem fr_9_34 {q : Nat} (h : Ty gM q 9 0) : HR q 34 = 106 ∧ Ty gM (106) 20 4 := by
  have key : ∀ q, q < 115 → SH q = (9, 0) → HR q 34 = 106 ∧ (gM.1 ≤ (106) ∧ (106) < gM.1 + gM.2) ∧ SH (106) = (20, 4) := by decide +kernel
  exact key q (by have := h.1.2; simp at this; omega) h.2
theorem fr_9_35 {q : Nat} (h : Ty gM q 9 0) : HR q 35 = 107 ∧ Ty gM (107) 20 4 := by
  have key : ∀ q, q < 115 → SH q = (9, 0) → HR q 35 = 107 ∧ (gM.1 ≤ (107) ∧ (107) < gM.1 + gM.2) ∧ SH (107) = (20, 4) := by decide +kernel
  exact key q (by have := h.1.2; simp at this; omega) h.2
theorem fr_9_36 {q : Nat} (h : Ty gM q 9 0) : HR q 36 = 108 ∧ Ty gM (108) 20 256 := by
  have key : ∀ q, q < 115 → SH q = (9, 0) → HR q 36 = 108 ∧ (gM.1 ≤ (108) ∧ (108) < gM.1 + gM.2) ∧ SH (108) = (20, 256) := by decide +kernel
  exact key q (by have := h.1.2; simp at this; omega) h.2
theorem fr_9_37 {q : Nat} (h : Ty gM q 9 0) : HR q 37 = 109 ∧ Ty gM (109) 20 4 := by
  have key : ∀ q, q < 115 → SH q = (9, 0) → HR q 37 = 109 ∧ (gM.1 ≤ (109) ∧ (109) < gM.1 + gM.2) ∧ SH (109) = (20, 4) := by decide +kernel
  exact key q (by have := h.1.2; simp at this; omega) h.2
theorem fr_9_38 {q : Nat} (h : Ty gM q 9 0) : HR q 38 = 110 ∧ Ty gM (110) 20 40 := by
  have key : ∀ q, q < 115 → SH q = (9, 0) → HR q 38 = 110 ∧ (gM.1 ≤ (110) ∧ (110) < gM.1 + gM.2) ∧ SH (110) = (20, 40) := by decide +kernel
  exact key q (by have := h.1.2; simp at this; omega) h.2
theorem fr_9_40 {q : Nat} (h : Ty gM q 9 0) : HR q 40 = 111 ∧ Ty gM (111) 20 128 := by
  have key : ∀ q, q < 115 → SH q = (9, 0) → HR q 40 = 111 ∧ (gM.1 ≤ (111) ∧ (111) < gM.1 + gM.2) ∧ SH (111) = (20, 128) := by decide +kernel
  exact key q (by have := h.1.2; simp at this; omega) h.2
theorem fr_9_41 {q : Nat} (h : Ty gM q 9 0) : HR q 41 = 112 ∧ Ty gM (112) 20 512 := by
  have key : ∀ q, q < 115 → SH q = (9, 0) → HR q 41 = 112 ∧ (gM.1 ≤ (112) ∧ (112) < gM.1 + gM.2) ∧ SH (112) = (20, 512) := by decide +kernel
  exact key q (by have := h.1.2; simp at this; omega) h.2
theorem fr_9_46 {q : Nat} (h : Ty gM q 9 0) : HR q 46 = 113 ∧ Ty gM (113) 20 8 := by
  have key : ∀ q, q < 115 → SH q = (9, 0) → HR q 46 = 113 ∧ (gM.1 ≤ (113) ∧ (113) < gM.1 + gM.2) ∧ SH (113) = (20, 8) := by decide +kernel
  exact key q (by have := h.1.2; simp at this; omega) h.2
theorem fr_9_47 {q : Nat} (h : Ty gM q 9 0) : HR q 47 = 114 ∧ Ty gM (114) 20 8 := by
  have key : ∀ q, q < 115 → SH q = (9, 0) → HR q 47 = 114 ∧ (gM.1 ≤ (114) ∧ (114) < gM.1 + gM.2) ∧ SH (114) = (20, 8) := by decide +kernel
  exact key q (by have := h.1.2; simp at this; omega) h.2
theorem el_32 {i : Int32} (h : vp_in i 4) : HR 32 i.toNatClampNeg = 34 + 11 * i.toNatClampNeg ∧ Ty gC (34 + 11 * i.toNatClampNeg) 3 0 := by
  have key : ∀ n, n < 4 → HR 32 n = 34 + 11 * n ∧ (gC.1 ≤ (34 + 11 * n) ∧ (34 + 11 * n) < gC.1 + gC.2) ∧ SH (34 + 11 * n) = (3, 0) := by decide +kernel
  exact key _ (Nat.not_le.mp fun z => h (Or.inr z))
theorem el_33 {i : Int32} (h : vp_in i 4) : HR 33 i.toNatClampNeg = 41 + 11 * i.toNatClampNeg ∧ Ty gC (41 + 11 * i.toNatClampNeg) 1 0 := by
  have key : ∀ n, n < 4 → HR 33 n = 41 + 11 * n ∧ (gC.1 ≤ (41 + 11 * n) ∧ (41 + 11 * n) < gC.1 + gC.2) ∧ SH (41 + 11 * n) = (1, 0) := by decide +kernel
  exact key _ (Nat.not_le.mp fun z => h (Or.inr z))
theorem ty_0 : Ty gC 0 8 0 := ⟨⟨by decide, by decide⟩, by decide +kernel⟩
theorem ty_1 : Ty gC 1 5 0 := ⟨⟨by decide, by decide⟩, by decide +kernel⟩
theorem ty_3 : Ty gC 3 0 0 := ⟨⟨by decide, by decide⟩, by decide +kernel⟩
theorem ty_4 : Ty gC 4 7 0 := ⟨⟨by decide, by decide⟩, by decide +kernel⟩
theorem ty_5 : Ty gC 5 6 0 := ⟨⟨by decide, by decide⟩, by decide +kernel⟩
theorem ty_6 : Ty gC 6 24 5 := ⟨⟨by decide, by decide⟩, by decide +kernel⟩
theorem ty_78 : Ty gM 78 9 0 := ⟨⟨by decide, by decide⟩, by decide +kernel⟩
