section XH
variable {C : Cx} {cc : ByteArray} {own : String} {nL : Nat} {rm : Room} {rt : Option FieldType} {pc : Nat} {lv : List (Nat × Value)} {st : List Value} {w : Wd} {k n : Nat} {q j ci idx : Nat}
theorem xE_obj {cA : Nat → ClassId} {ad : Nat → Nat} {sh : Nat → Nat × Nat} {g : Sg} (h : (sh q).1 = ci) (hc : ci < 10) : xE cA ad sh g q = .inr (ci, (List.range (NF ci)).map (fun j => fvl ad g (FT ci j) q j)) := by
  unfold xE
  rw [h, if_pos (show ci < 20 by omega)]
theorem xE_int {cA : Nat → ClassId} {ad : Nat → Nat} {sh : Nat → Nat × Nat} {g : Sg} {len : Nat} (h : sh q = (20, len)) : xE cA ad sh g q = .inl (cA 20, len, .inl (g.1 q)) := by
  unfold xE
  rw [h]
  rfl
theorem xE_bool {cA : Nat → ClassId} {ad : Nat → Nat} {sh : Nat → Nat × Nat} {g : Sg} {len : Nat} (h : sh q = (21, len)) : xE cA ad sh g q = .inl (cA 21, len, .inl (g.1 q)) := by
  unfold xE
  rw [h]
  rfl
theorem xE_ref {cA : Nat → ClassId} {ad : Nat → Nat} {sh : Nat → Nat × Nat} {g : Sg} {len : Nat} (h : sh q = (22 + ci, len)) : xE cA ad sh g q = .inl (cA (22 + ci), len, .inr (.inr (.inr (.inr (fun j => (g.2.1 q j).map ad))))) := by
  unfold xE
  rw [h]
  simp only
  rw [if_neg (show ¬ 22 + ci < 20 by omega), if_neg (show ¬ 22 + ci < 22 by omega)]
theorem range_at {α : Type} {f : Nat → α} {N i : Nat} (h : i < N) : ((List.range N).map f)[i]? = some (f i) := by simp [h]
/-- a field link -/
def FL (own : String) (idx ci j : Nat) : Prop := Cond.fieldLink own idx (TTf ci j).1 (TTf ci j).2.1 (TTf ci j).2.2.1 ∈ BIG
theorem x_get (hC : xOk C cc own nL rm rt) (hd : decode cc pc = .ok (.getfield idx, 3)) (hl : FL own idx ci j) (hj : ci < 10 ∧ j < NF ci) (hq : xIn w.1 q ∧ (w.2.1 q).1 = ci) {v : Value} (hv : ∀ ad, fvl ad w.2.2 (FT ci j) q j = xv ad v) (kk : AW C (pc + 3) lv (v :: st) w k n) : AW C pc lv (.ref q :: st) w k n := by
  obtain ⟨p, l, e, R, s, m, args, below, meth, c, D, cA, A, nL', G, Q⟩ := C
  obtain ⟨hx, hb, -, hown, hts, hK, -⟩ := hC
  intro ad H locs ls hG hT hP hA hS hl'
  have he := xW_at (cA := cA) (ad := ad) (w := w) hq.1
  rw [xE_obj hq.2 hj.1] at he
  exact va_get (v := xv ad v) hx hb hts (cl_w hj.1) hown hK.1 hP (q - w.1.1) he (cl_at hj.1) j hj.2 (hts _ hl) (fun _ h => h) (by rw [range_at hj.2, hv]) hd (kk ad H locs ls hG hT hP hA hS hl')
theorem x_getI (hC : xOk C cc own nL rm rt) (hd : decode cc pc = .ok (.getfield idx, 3)) (hl : FL own idx ci j) (hj : ci < 10 ∧ j < NF ci) (hf : FT ci j = 0 ∨ FT ci j = 3) (hq : xIn w.1 q ∧ (w.2.1 q).1 = ci) (kk : AW C (pc + 3) lv (.int (w.2.2.1 q j) :: st) w k n) : AW C pc lv (.ref q :: st) w k n :=
  x_get hC hd hl hj hq (fun ad => by rcases hf with h | h <;> rw [h] <;> rfl) kk
theorem x_getL (hC : xOk C cc own nL rm rt) (hd : decode cc pc = .ok (.getfield idx, 3)) (hl : FL own idx ci j) (hj : ci < 10 ∧ j < NF ci) (hf : FT ci j = 2) (hq : xIn w.1 q ∧ (w.2.1 q).1 = ci) (kk : AW C (pc + 3) lv (.long (w.2.2.2.2 q j) :: st) w k n) : AW C pc lv (.ref q :: st) w k n :=
  x_get hC hd hl hj hq (fun ad => by rw [hf]; rfl) kk
theorem x_getR (hC : xOk C cc own nL rm rt) (hd : decode cc pc = .ok (.getfield idx, 3)) (hl : FL own idx ci j) (hj : ci < 10 ∧ j < NF ci) (hf : FT ci j = 1) (hq : xIn w.1 q ∧ (w.2.1 q).1 = ci) {r : Nat} (hr : w.2.2.2.1 q j = some r) (kk : AW C (pc + 3) lv (.ref r :: st) w k n) : AW C pc lv (.ref q :: st) w k n :=
  x_get hC hd hl hj hq (fun ad => by rw [hf]; show va_re ad (w.2.2.2.1 q j) = _; rw [hr]; rfl) kk
/-- behind a store into a field -/
theorem obj_upd {cA : Nat → ClassId} {ad : Nat → Nat} {g : Nat × Nat} {sh : Nat → Nat × Nat} {a b : Sg} {v : Value} (hq : xIn g q) (hs : (sh q).1 = ci) (hc : ci < 10) (hv : fvl ad b (FT ci j) q j = v) (hself : ∀ i, i ≠ j → fvl ad b (FT ci i) q i = fvl ad a (FT ci i) q i) (ho : ∀ z, z ≠ q → b.1 z = a.1 z ∧ b.2.1 z = a.2.1 z ∧ b.2.2 z = a.2.2 z) : (xW cA ad (g, sh, a)).set (q - g.1) (ad q, .inr (ci, ((List.range (NF ci)).map (fun j => fvl ad a (FT ci j) q j)).set j v)) = xW cA ad (g, sh, b) := by
  refine xW_set hq ?_ (fun z hz => ?_)
  · rw [xE_obj hs hc, set_map (f' := fun i => fvl ad b (FT ci i) q i) hv hself]
  · obtain ⟨h1, h2, h3⟩ := ho z hz
    unfold xE
    have hf : ∀ t i, fvl ad b t z i = fvl ad a t z i := by
      intro t i
      unfold fvl
      rw [h1, h2, h3]
    simp only [hf, h1, h2]
theorem x_putI {g : Nat × Nat} {sh : Nat → Nat × Nat} {a : Sg} (hC : xOk C cc own nL rm rt) (hd : decode cc pc = .ok (.putfield idx, 3)) (hl : FL own idx ci j) (hj : ci < 10 ∧ j < NF ci) (hfin : (TTf ci j).2.2.2 = false) {x : Int32} (hf : FT ci j = 0 ∨ FT ci j = 3) (hn : narrow (TYf ci j) (.int x) = .int x) (hfit : fits (TYf ci j) (.int x) = true) (hq : xIn g q ∧ (sh q).1 = ci) (kk : AW C (pc + 3) lv st (g, sh, up2 a.1 q j x, a.2) k n) : AW C pc lv (.int x :: .ref q :: st) (g, sh, a) k n := by
  obtain ⟨p, l, e, R, s, m, args, below, meth, c, D, cA, A, nL', G, Q⟩ := C
  obtain ⟨hx, hb, -, hown, hts, hK, -⟩ := hC
  intro ad H locs ls hG hT hP hA hS hl'
  have he := xW_at (cA := cA) (ad := ad) (w := (g, sh, a)) hq.1
  rw [xE_obj hq.2 hj.1] at he
  refine va_put (ty := TYf ci j) (v := .int x) hx hb hts (cl_w hj.1) (TYf ci) (cl_ty ci hj.1) (cl_nm ci hj.1) hown hK.1 hP (xD_of hA) hS (q - g.1) he (cl_at hj.1) j hj.2 (hts _ hl) (fun _ h => h) hfin (cl_ty ci hj.1 j hj.2) hn hfit (by simpa using hj.2) hd (fun H1 locs1 hP1 hD1 hS1 => ?_)
  have hu := obj_upd (cA := cA) (ad := ad) (g := g) (sh := sh) (a := a) (b := (up2 a.1 q j x, a.2)) (v := .int x) (j := j) hq.1 hq.2 hj.1 (by rcases hf with h | h <;> rw [h] <;> simp [fvl, up2]) (fun i hi => by unfold fvl; simp [up2, hi]) (fun z hz => ⟨up2_row hz, rfl, rfl⟩)
  rw [hu] at hP1 hD1
  exact kk ad H1 locs1 ls hG hT hP1 (xAd_of hD1) hS1 hl'
theorem x_putL {g : Nat × Nat} {sh : Nat → Nat × Nat} {a : Sg} (hC : xOk C cc own nL rm rt) (hd : decode cc pc = .ok (.putfield idx, 3)) (hl : FL own idx ci j) (hj : ci < 10 ∧ j < NF ci) (hfin : (TTf ci j).2.2.2 = false) {x : Int64} (hf : FT ci j = 2) (hn : narrow (TYf ci j) (.long x) = .long x) (hfit : fits (TYf ci j) (.long x) = true) (hq : xIn g q ∧ (sh q).1 = ci) (kk : AW C (pc + 3) lv st (g, sh, a.1, a.2.1, up2 a.2.2 q j x) k n) : AW C pc lv (.long x :: .ref q :: st) (g, sh, a) k n := by
  obtain ⟨p, l, e, R, s, m, args, below, meth, c, D, cA, A, nL', G, Q⟩ := C
  obtain ⟨hx, hb, -, hown, hts, hK, -⟩ := hC
  intro ad H locs ls hG hT hP hA hS hl'
  have he := xW_at (cA := cA) (ad := ad) (w := (g, sh, a)) hq.1
  rw [xE_obj hq.2 hj.1] at he
  refine va_put (ty := TYf ci j) (v := .long x) hx hb hts (cl_w hj.1) (TYf ci) (cl_ty ci hj.1) (cl_nm ci hj.1) hown hK.1 hP (xD_of hA) hS (q - g.1) he (cl_at hj.1) j hj.2 (hts _ hl) (fun _ h => h) hfin (cl_ty ci hj.1 j hj.2) hn hfit (by simpa using hj.2) hd (fun H1 locs1 hP1 hD1 hS1 => ?_)
  have hu := obj_upd (cA := cA) (ad := ad) (g := g) (sh := sh) (a := a) (b := (a.1, a.2.1, up2 a.2.2 q j x)) (v := .long x) (j := j) hq.1 hq.2 hj.1 (by rw [hf]; simp [fvl, up2]) (fun i hi => by unfold fvl; simp [up2, hi]) (fun z hz => ⟨rfl, rfl, up2_row hz⟩)
  rw [hu] at hP1 hD1
  exact kk ad H1 locs1 ls hG hT hP1 (xAd_of hD1) hS1 hl'
theorem x_iald (hC : xOk C cc own nL rm rt) (hd : decode cc pc = .ok (.iaload, 1)) {len : Nat} (hq : xIn w.1 q ∧ w.2.1 q = (20, len)) {i : Int32} (hi : vp_in i len) (kk : AW C (pc + 1) lv (.int (w.2.2.1 q i.toNatClampNeg) :: st) w k n) : AW C pc lv (.int i :: .ref q :: st) w k n := by
  obtain ⟨p, l, e, R, s, m, args, below, meth, c, D, cA, A, nL', G, Q⟩ := C
  obtain ⟨hx, hb, -, hown, hts, hK, -⟩ := hC
  intro ad H locs ls hG hT hP hA hS hl'
  have he := xW_at (cA := cA) (ad := ad) (w := w) hq.1
  rw [xE_int hq.2] at he
  exact va_iald hx hb hK.1 hP (q - w.1.1) 0 he rfl hi hd (kk ad H locs ls hG hT hP hA hS hl')
theorem x_zald (hC : xOk C cc own nL rm rt) (hd : decode cc pc = .ok (.baload, 1)) {len : Nat} (hq : xIn w.1 q ∧ w.2.1 q = (21, len)) {i : Int32} (hi : vp_in i len) (kk : AW C (pc + 1) lv (.int (w.2.2.1 q i.toNatClampNeg) :: st) w k n) : AW C pc lv (.int i :: .ref q :: st) w k n := by
  obtain ⟨p, l, e, R, s, m, args, below, meth, c, D, cA, A, nL', G, Q⟩ := C
  obtain ⟨hx, hb, -, hown, hts, hK, -⟩ := hC
  intro ad H locs ls hG hT hP hA hS hl'
  have he := xW_at (cA := cA) (ad := ad) (w := w) hq.1
  rw [xE_bool hq.2] at he
  exact va_zald hx hb hK.1 hP (q - w.1.1) 1 he rfl hi hd (kk ad H locs ls hG hT hP hA hS hl')
theorem arr_upd {cA : Nat → ClassId} {ad : Nat → Nat} {g : Nat × Nat} {sh : Nat → Nat × Nat} {a : Sg} {i : Nat} {v : Int32} {z : Nat} (hz : z ≠ q) : xE cA ad sh (up2 a.1 q i v, a.2) z = xE cA ad sh a z := by
  unfold xE
  have h1 : up2 a.1 q i v z = a.1 z := up2_row hz
  have hf : ∀ t b, fvl ad (up2 a.1 q i v, a.2) t z b = fvl ad a t z b := by
    intro t b
    unfold fvl
    simp only [h1]
  simp only [hf, h1]
theorem x_iast {g : Nat × Nat} {sh : Nat → Nat × Nat} {a : Sg} (hC : xOk C cc own nL rm rt) (hd : decode cc pc = .ok (.iastore, 1)) {len : Nat} (hq : xIn g q ∧ sh q = (20, len)) {i x : Int32} (hi : vp_in i len) (kk : AW C (pc + 1) lv st (g, sh, up2 a.1 q i.toNatClampNeg x, a.2) k n) : AW C pc lv (.int x :: .int i :: .ref q :: st) (g, sh, a) k n := by
  obtain ⟨p, l, e, R, s, m, args, below, meth, c, D, cA, A, nL', G, Q⟩ := C
  obtain ⟨hx, hb, -, hown, hts, hK, -⟩ := hC
  intro ad H locs ls hG hT hP hA hS hl'
  have he := xW_at (cA := cA) (ad := ad) (w := (g, sh, a)) hq.1
  rw [xE_int hq.2] at he
  refine va_iast hx hb hK.1 hP (xD_of hA) hS (q - g.1) 0 he rfl hi hd (fun H1 locs1 hP1 hD1 hS1 => ?_)
  have hu := xW_set (cA := cA) (ad := ad) (g := g) (sh := sh) (a := a) (b := (up2 a.1 q i.toNatClampNeg x, a.2)) (q := q) (e := .inl (cA 20, len, .inl (upd (a.1 q) i.toNatClampNeg x))) hq.1 (by rw [xE_int hq.2, ← up2_upd]) (fun z hz => arr_upd (g := g) hz)
  rw [hu] at hP1 hD1
  exact kk ad H1 locs1 ls hG hT hP1 (xAd_of hD1) hS1 hl'
theorem x_zast {g : Nat × Nat} {sh : Nat → Nat × Nat} {a : Sg} (hC : xOk C cc own nL rm rt) (hd : decode cc pc = .ok (.bastore, 1)) {len : Nat} (hq : xIn g q ∧ sh q = (21, len)) {i x y : Int32} (hi : vp_in i len) (hy : vp_nar .boolean x = y) (kk : AW C (pc + 1) lv st (g, sh, up2 a.1 q i.toNatClampNeg y, a.2) k n) : AW C pc lv (.int x :: .int i :: .ref q :: st) (g, sh, a) k n := by
  subst hy
  obtain ⟨p, l, e, R, s, m, args, below, meth, c, D, cA, A, nL', G, Q⟩ := C
  obtain ⟨hx, hb, -, hown, hts, hK, -⟩ := hC
  intro ad H locs ls hG hT hP hA hS hl'
  have he := xW_at (cA := cA) (ad := ad) (w := (g, sh, a)) hq.1
  rw [xE_bool hq.2] at he
  refine va_zast hx hb hK.1 hP (xD_of hA) hS (q - g.1) 1 he rfl hi hd (fun H1 locs1 hP1 hD1 hS1 => ?_)
  have hu := xW_set (cA := cA) (ad := ad) (g := g) (sh := sh) (a := a) (b := (up2 a.1 q i.toNatClampNeg (vp_nar .boolean x), a.2)) (q := q) (e := .inl (cA 21, len, .inl (upd (a.1 q) i.toNatClampNeg (vp_nar .boolean x)))) hq.1 (by rw [xE_bool hq.2, ← up2_upd]) (fun z hz => arr_upd (g := g) hz)
  rw [hu] at hP1 hD1
  exact kk ad H1 locs1 ls hG hT hP1 (xAd_of hD1) hS1 hl'
/-- arrays of references: the kind's place among the array kinds -/
def tA (ci : Nat) : Nat := ci + 1
theorem tA_at (cA : Nat → ClassId) (h : ci = 1 ∨ ci = 2 ∨ ci = 3) : (tyA cA)[tA ci]? = some (cA (22 + ci), .object (RRf ci)) := by
  rcases h with rfl | rfl | rfl <;> rfl
theorem x_aald (hC : xOk C cc own nL rm rt) (hd : decode cc pc = .ok (.aaload, 1)) {len r : Nat} (hc : ci = 1 ∨ ci = 2 ∨ ci = 3) (hq : xIn w.1 q ∧ w.2.1 q = (22 + ci, len)) {i : Int32} (hi : vp_in i len) (hr : w.2.2.2.1 q i.toNatClampNeg = some r) (kk : AW C (pc + 1) lv (.ref r :: st) w k n) : AW C pc lv (.int i :: .ref q :: st) w k n := by
  obtain ⟨p, l, e, R, s, m, args, below, meth, c, D, cA, A, nL', G, Q⟩ := C
  obtain ⟨hx, hb, -, hown, hts, hK, -⟩ := hC
  intro ad H locs ls hG hT hP hA hS hl'
  have he := xW_at (cA := cA) (ad := ad) (w := w) hq.1
  rw [xE_ref hq.2] at he
  refine va_aldq hx hb hK.1 hP (q - w.1.1) (tA ci) he (tA_at cA hc) hi hd ?_
  have hk := kk ad H locs ls hG hT hP hA hS hl'
  simp only [hr]
  exact hk
theorem x_aast {g : Nat × Nat} {sh : Nat → Nat × Nat} {a : Sg} (hC : xOk C cc own nL rm rt) (hd : decode cc pc = .ok (.aastore, 1)) {len r : Nat} (hc : ci = 1 ∨ ci = 2 ∨ ci = 3) (hq : xIn g q ∧ sh q = (22 + ci, len)) (hrr : xIn g r ∧ (sh r).1 = ci) {i : Int32} (hi : vp_in i len) (kk : AW C (pc + 1) lv st (g, sh, a.1, up2 a.2.1 q i.toNatClampNeg (some r), a.2.2) k n) : AW C pc lv (.ref r :: .int i :: .ref q :: st) (g, sh, a) k n := by
  obtain ⟨p, l, e, R, s, m, args, below, meth, c, D, cA, A, nL', G, Q⟩ := C
  obtain ⟨hx, hb, -, hown, hts, hK, -⟩ := hC
  intro ad H locs ls hG hT hP hA hS hl'
  have hcc : ci < 10 := by omega
  have he := xW_at (cA := cA) (ad := ad) (w := (g, sh, a)) hq.1
  rw [xE_ref hq.2] at he
  have he2 := xW_at (cA := cA) (ad := ad) (w := (g, sh, a)) hrr.1
  rw [xE_obj hrr.2 hcc] at he2
  refine va_astq hx hb hK.1 hP (xD_of hA) hS (q - g.1) (tA ci) (r - g.1) ci he (tA_at cA hc) he2 (cl_at hcc) hi hd (fun H1 locs1 hP1 hD1 hS1 => ?_)
  have hu := xW_set (cA := cA) (ad := ad) (g := g) (sh := sh) (a := a) (b := (a.1, up2 a.2.1 q i.toNatClampNeg (some r), a.2.2)) (q := q) (e := .inl (cA (22 + ci), len, .inr (.inr (.inr (.inr (va_up (fun j => (a.2.1 q j).map ad) i.toNatClampNeg (some (ad r)))))))) hq.1 (by
    rw [xE_ref hq.2]
    congr 7
    funext b
    by_cases hb2 : b = i.toNatClampNeg <;> simp [va_up, up2, hb2]) (fun z hz => by
    unfold xE
    have h1 : up2 a.2.1 q i.toNatClampNeg (some r) z = a.2.1 z := up2_row hz
    have hf : ∀ t b, fvl ad (a.1, up2 a.2.1 q i.toNatClampNeg (some r), a.2.2) t z b = fvl ad a t z b := by
      intro t b
      unfold fvl
      simp only [h1]
    simp only [hf, h1])
  rw [hu] at hP1 hD1
  exact kk ad H1 locs1 ls hG hT hP1 (xAd_of hD1) hS1 hl'
end XH
