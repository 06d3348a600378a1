/-! Constructors: cells are made. All whole numbers are 0 then; what changes: kinds, references. -/
def zg (hr : Nat → Nat → Option Nat) : Sg := ((fun _ _ => 0), hr, (fun _ _ => 0))
abbrev zw (b m : Nat) (sh : Nat → Nat × Nat) (hr : Nat → Nat → Option Nat) : Wd := ((b, m), sh, zg hr)
abbrev KW (C : Cx) (b pc : Nat) (lv : List (Nat × Value)) (st : List Value) (m : Nat) (sh : Nat → Nat × Nat) (hr : Nat → Nat → Option Nat) (k n : Nat) : Prop := AW C pc lv st (zw b m sh hr) k n
def clr (hr : Nat → Nat → Option Nat) (q : Nat) : Nat → Nat → Option Nat := fun x j => if x = q then none else hr x j
def WFr (hr : Nat → Nat → Option Nat) (n : Nat) : Prop := ∀ x j r, hr x j = some r → r < n
theorem WFr.clr {hr : Nat → Nat → Option Nat} {n q : Nat} (h : WFr hr n) : WFr (clr hr q) (n + 1) := by
  intro x j r e
  unfold _root_.Jvm.Pilot.@@N@@.clr at e
  by_cases hx : x = q
  · rw [if_pos hx] at e
    cases e
  · rw [if_neg hx] at e
    have := h x j r e
    omega
theorem WFr.put {hr : Nat → Nat → Option Nat} {n q j r : Nat} (h : WFr hr n) (hr' : r < n) : WFr (up2 hr q j (some r)) n := by
  intro x i z e
  unfold up2 at e
  by_cases hx : x = q ∧ i = j
  · rw [if_pos hx] at e
    cases e
    exact hr'
  · rw [if_neg hx] at e
    exact h x i z e
def okL (n : Nat) (vs : List Value) : Prop := ∀ r, Value.ref r ∈ vs → (r < n ∨ 900 ≤ r)
theorem ok_nil {n : Nat} : okL n [] := fun _ h => absurd h List.not_mem_nil
theorem ok_i {n : Nat} {x : Int32} {vs : List Value} (h : okL n vs) : okL n (.int x :: vs) := fun r hr => by
  rcases List.mem_cons.mp hr with e | e
  · cases e
  · exact h r e
theorem ok_r {n q : Nat} {vs : List Value} (hq : q < n) (h : okL n vs) : okL n (.ref q :: vs) := fun r hr => by
  rcases List.mem_cons.mp hr with e | e
  · cases e
    exact Or.inl hq
  · exact h r e
theorem ok_9 {n q : Nat} {vs : List Value} (hq : 900 ≤ q) (h : okL n vs) : okL n (.ref q :: vs) := fun r hr => by
  rcases List.mem_cons.mp hr with e | e
  · cases e
    exact Or.inr hq
  · exact h r e
theorem xv_ok {n : Nat} {ad ad' : Nat → Nat} {v : Value} (h : ∀ i, (i < n ∨ 900 ≤ i) → ad' i = ad i) (hv : ∀ r, v = .ref r → (r < n ∨ 900 ≤ r)) : xv ad' v = xv ad v := by
  cases v with
  | ref r => exact congrArg Value.ref (h r (hv r rfl))
  | _ => rfl
theorem st_ok {n : Nat} {ad ad' : Nat → Nat} {vs : List Value} (h : ∀ i, (i < n ∨ 900 ≤ i) → ad' i = ad i) (hv : okL n vs) : vs.map (xv ad') = vs.map (xv ad) :=
  List.map_congr_left fun v hm => xv_ok h fun r e => hv r (e ▸ hm)
theorem xl_ok {n : Nat} {ad ad' : Nat → Nat} {lv : List (Nat × Value)} (h : ∀ i, (i < n ∨ 900 ≤ i) → ad' i = ad i) (hv : okL n (lv.map Prod.snd)) : xl ad' lv = xl ad lv :=
  List.map_congr_left fun q hm => by
    rw [xv_ok h fun r e => hv r (e ▸ List.mem_map.mpr ⟨q, hm, rfl⟩)]
theorem ok_app {n : Nat} {a b : List Value} (h : okL n (a ++ b)) : okL n a ∧ okL n b := ⟨fun r hr => h r (List.mem_append_left _ hr), fun r hr => h r (List.mem_append_right _ hr)⟩
/-- the places under n and the tables' are meant as they are, others may be set -/
def xGr (C : Cx) (n : Nat) : Prop := match C with
  | (_, _, _, _, _, _, _, _, _, _, _, _, _, _, G, _) => ∀ ad ad' : Nat → Nat, (∀ i, (i < n ∨ 900 ≤ i) → ad' i = ad i) → G ad → G ad'
theorem up_same {ad : Nat → Nat} {n a : Nat} (hn : n < 900) : ∀ i, (i < n ∨ 900 ≤ i) → va_up ad n a i = ad i := fun i hi => by
  unfold va_up
  rw [if_neg (by omega)]
theorem xE_grow {cA : Nat → ClassId} {ad : Nat → Nat} {sh : Nat → Nat × Nat} {hr : Nat → Nat → Option Nat} {n a x : Nat} {s : Nat × Nat} (hwf : WFr hr n) (hx : x ≠ n) : xE cA (va_up ad n a) (va_up sh n s) (zg (clr hr n)) x = xE cA ad sh (zg hr) x := by
  have e1 : va_up sh n s x = sh x := by unfold va_up; rw [if_neg hx]
  have e2 : ∀ j, clr hr n x j = hr x j := fun j => by unfold clr; rw [if_neg hx]
  have e3 : ∀ j, (hr x j).map (va_up ad n a) = (hr x j).map ad := fun j => by
    cases h : hr x j with
    | none => rfl
    | some r =>
      have := hwf x j r h
      show some (va_up ad n a r) = some (ad r)
      unfold va_up
      rw [if_neg (by omega)]
  have e4 : ∀ t j, fvl (va_up ad n a) (zg (clr hr n)) t x j = fvl ad (zg hr) t x j := fun t j => by
    unfold fvl zg va_re
    simp only [e2, e3]
  unfold xE
  rw [e1]
  simp only [e4]
  simp only [zg, e2, e3]
theorem xW_grow {cA : Nat → ClassId} {ad : Nat → Nat} {sh : Nat → Nat × Nat} {hr : Nat → Nat → Option Nat} {b m a : Nat} {s : Nat × Nat} {e : va_E} (hwf : WFr hr (b + m)) (he : e = xE cA (va_up ad (b + m) a) (va_up sh (b + m) s) (zg (clr hr (b + m))) (b + m)) : xW cA ad (zw b m sh hr) ++ [(a, e)] = xW cA (va_up ad (b + m) a) (zw b (m + 1) (va_up sh (b + m) s) (clr hr (b + m))) := by
  unfold xW
  show _ = (List.range (m + 1)).map _
  rw [List.range_succ, List.map_append]
  congr 1
  · apply List.map_congr_left
    intro i hi
    have hi' : i < m := List.mem_range.mp hi
    show (ad (b + i), _) = (va_up ad (b + m) a (b + i), _)
    rw [xE_grow hwf (show b + i ≠ b + m by omega)]
    unfold va_up
    rw [if_neg (show ¬ b + i = b + m by omega)]
  · rw [he]
    simp [va_up]
def dfl (t : Nat) : Value := match t with
  | 1 => .null
  | 2 => .long 0
  | _ => .int 0
theorem dfl_ok : ∀ ci, ci < 10 → ∀ j, j < NF ci → defaultValue (TYf ci j) = dfl (FT ci j) := by decide +kernel
theorem fvl_new {ad : Nat → Nat} {hr : Nat → Nat → Option Nat} {n t j : Nat} : fvl ad (zg (clr hr n)) t n j = dfl t := by
  unfold fvl dfl zg clr
  split <;> simp [va_re, va_rf]
section XK
variable {C : Cx} {cc : ByteArray} {own : String} {nL : Nat} {rm : Room} {rt : Option FieldType} {pc b m k n ci idx : Nat} {lv : List (Nat × Value)} {st : List Value} {sh : Nat → Nat × Nat} {hr : Nat → Nat → Option Nat}
theorem c_new (hC : xOk C cc own nL rm rt) (hd : decode cc pc = .ok (.new idx, 3)) (hcl : Cond.classLink own idx (RRf ci) ∈ BIG) (hin : Cond.instantiable (RRf ci) (NF ci) ∈ BIG) (hini : Cond.initialized (RRf ci) ∈ BIG) (hc : ci < 10) (hb9 : b + m < 900) (hwf : WFr hr (b + m)) (hok : okL (b + m) (lv.map Prod.snd ++ st)) (hg : xGr C (b + m)) (h1 : k + 1 ≤ rm.cells) (h2 : n + NF ci ≤ rm.slots) (kk : KW C b (pc + 3) lv (.ref (b + m) :: st) (m + 1) (va_up sh (b + m) (ci, 0)) (clr hr (b + m)) (k + 1) (n + NF ci)) : KW C b pc lv st m sh hr k n := by
  obtain ⟨p, l, e, R, s, mt, args, below, meth, c, D, cA, A, nL', G, Q⟩ := C
  obtain ⟨hx, hb, -, hown, hts, hK, hA0, -, hRR, -⟩ := hC
  subst hRR
  intro ad H locs ls hG hT hP hA hS hl
  obtain ⟨ok1, ok2⟩ := ok_app hok
  have hfs : ∀ j, j < NF ci → defaultValue (TYf ci j) = vp_V ((List.range (NF ci)).map (fun j => dfl (FT ci j))) j := fun j hj => by
    rw [dfl_ok ci hc j hj]
    simp [vp_V, List.getD_eq_getElem?_getD, hj]
  refine va_new hx hb hts (cl_w hc) (TYf ci) (cl_ty ci hc) hown (hts _ hcl) (hts _ hin) (hts _ hini) hK.1 hP (xD_of hA) hS hA0 (cl_at hc) hfs h1 h2 hd (fun a H1 hP1 hD1 hS1 => ?_)
  have hW := xW_grow (cA := cA) (ad := ad) (sh := sh) (a := a) (s := (ci, 0)) (e := .inr (ci, (List.range (NF ci)).map (fun j => dfl (FT ci j)))) hwf (by
    rw [xE_obj (ci := ci) (by simp [va_up]) hc]
    simp only [fvl_new])
  rw [hW] at hP1 hD1
  have hs := up_same (ad := ad) (a := a) hb9
  have hkk := kk (va_up ad (b + m) a) H1 locs ls (hg ad _ hs hG) (hT.ad (hs 900 (Or.inr (Nat.le_refl _))) (hs 901 (Or.inr (by omega)))) hP1 (xAd_of hD1) hS1 (by rw [xl_ok hs ok1]; exact hl)
  rw [List.map_cons, st_ok hs ok2] at hkk
  simpa [xv, va_up] using hkk
theorem ra_int {s : State} {D : va_G} {cA : Nat → ClassId} {z : ClassId} (hK : va_K D CL (tyA cA) s) (h : va_K D CL (tyA cA ++ [(z, .int)]) s) : z = cA 20 := by
  have h1 := (h.2 5 (z, .int) rfl).2
  have h2 := (hK.2 0 (cA 20, .int) rfl).2
  exact Option.some.inj (Eq.trans (Eq.symm h1) h2)
theorem ra_bool {s : State} {D : va_G} {cA : Nat → ClassId} {z : ClassId} (hK : va_K D CL (tyA cA) s) (h : va_K D CL (tyA cA ++ [(z, .boolean)]) s) : z = cA 21 := by
  have h1 := (h.2 5 (z, .boolean) rfl).2
  have h2 := (hK.2 1 (cA 21, .boolean) rfl).2
  exact Option.some.inj (Eq.trans (Eq.symm h1) h2)
theorem ra_ref {s : State} {D : va_G} {cA : Nat → ClassId} {z : ClassId} (hc : ci = 1 ∨ ci = 2 ∨ ci = 3) (hK : va_K D CL (tyA cA) s) (h : va_K D CL (tyA cA ++ [(z, .object (RRf ci))]) s) : z = cA (22 + ci) := by
  obtain ⟨-, -, -, -, -, h1⟩ := (h.2 5 (z, .object (RRf ci)) rfl).2
  obtain ⟨-, -, -, -, -, h2⟩ := (hK.2 _ _ (tA_at cA hc)).2
  exact Option.some.inj (Eq.trans (Eq.symm h1) h2)
theorem c_newI (hC : xOk C cc own nL rm rt) (hd : decode cc pc = .ok (.newarray .int, 2)) (ha : Cond.arrayClass .int ∈ BIG) {N : Nat} {x : Int32} (hx0 : ¬ x < 0) (hN : x.toNatClampNeg = N) (hN2 : N ≤ 10000) (hb9 : b + m < 900) (hwf : WFr hr (b + m)) (hok : okL (b + m) (lv.map Prod.snd ++ st)) (hg : xGr C (b + m)) (h1 : k + 1 ≤ rm.cells) (h2 : n + N ≤ rm.slots) (kk : KW C b (pc + 2) lv (.ref (b + m) :: st) (m + 1) (va_up sh (b + m) (20, N)) (clr hr (b + m)) (k + 1) (n + N)) : KW C b pc lv (.int x :: st) m sh hr k n := by
  obtain ⟨p, l, e, R, s, mt, args, below, meth, c, D, cA, A, nL', G, Q⟩ := C
  obtain ⟨hx, hb, -, hown, hts, hK, hA0, -, hRR, -⟩ := hC
  subst hRR
  intro ad H locs ls hG hT hP hA hS hl
  obtain ⟨ok1, ok2⟩ := ok_app hok
  refine va_newa (atype := .int) (ty := .int) (a0 := (N, .inl (fun _ => 0))) hx hb (hts _ ha) rfl hK.1 hP (xD_of hA) hS hA0 (fun _ => rfl) hx0 hN (by show N * 4 ≤ _; omega) h1 h2 hd (fun a z H1 hK1 hP1 hD1 hS1 => ?_)
  have hz := ra_int hK.1 hK1
  subst hz
  have hW := xW_grow (cA := cA) (ad := ad) (sh := sh) (a := a) (s := (20, N)) (e := .inl (cA 20, N, .inl (fun _ => 0))) hwf (by
    rw [xE_int (len := N) (by simp [va_up])]
    rfl)
  rw [hW] at hP1 hD1
  have hs := up_same (ad := ad) (a := a) hb9
  have hkk := kk (va_up ad (b + m) a) H1 locs ls (hg ad _ hs hG) (hT.ad (hs 900 (Or.inr (Nat.le_refl _))) (hs 901 (Or.inr (by omega)))) hP1 (xAd_of hD1) hS1 (by rw [xl_ok hs ok1]; exact hl)
  rw [List.map_cons, st_ok hs ok2] at hkk
  simpa [xv, va_up] using hkk
theorem c_newZ (hC : xOk C cc own nL rm rt) (hd : decode cc pc = .ok (.newarray .boolean, 2)) (ha : Cond.arrayClass .boolean ∈ BIG) {N : Nat} {x : Int32} (hx0 : ¬ x < 0) (hN : x.toNatClampNeg = N) (hN2 : N ≤ 10000) (hb9 : b + m < 900) (hwf : WFr hr (b + m)) (hok : okL (b + m) (lv.map Prod.snd ++ st)) (hg : xGr C (b + m)) (h1 : k + 1 ≤ rm.cells) (h2 : n + N ≤ rm.slots) (kk : KW C b (pc + 2) lv (.ref (b + m) :: st) (m + 1) (va_up sh (b + m) (21, N)) (clr hr (b + m)) (k + 1) (n + N)) : KW C b pc lv (.int x :: st) m sh hr k n := by
  obtain ⟨p, l, e, R, s, mt, args, below, meth, c, D, cA, A, nL', G, Q⟩ := C
  obtain ⟨hx, hb, -, hown, hts, hK, hA0, -, hRR, -⟩ := hC
  subst hRR
  intro ad H locs ls hG hT hP hA hS hl
  obtain ⟨ok1, ok2⟩ := ok_app hok
  refine va_newa (atype := .boolean) (ty := .boolean) (a0 := (N, .inl (fun _ => 0))) hx hb (hts _ ha) rfl hK.1 hP (xD_of hA) hS hA0 (fun _ => rfl) hx0 hN (by show N * 1 ≤ _; omega) h1 h2 hd (fun a z H1 hK1 hP1 hD1 hS1 => ?_)
  have hz := ra_bool hK.1 hK1
  subst hz
  have hW := xW_grow (cA := cA) (ad := ad) (sh := sh) (a := a) (s := (21, N)) (e := .inl (cA 21, N, .inl (fun _ => 0))) hwf (by
    rw [xE_bool (len := N) (by simp [va_up])]
    rfl)
  rw [hW] at hP1 hD1
  have hs := up_same (ad := ad) (a := a) hb9
  have hkk := kk (va_up ad (b + m) a) H1 locs ls (hg ad _ hs hG) (hT.ad (hs 900 (Or.inr (Nat.le_refl _))) (hs 901 (Or.inr (by omega)))) hP1 (xAd_of hD1) hS1 (by rw [xl_ok hs ok1]; exact hl)
  rw [List.map_cons, st_ok hs ok2] at hkk
  simpa [xv, va_up] using hkk
theorem ao_of {D : va_G} {cA : Nat → ClassId} {U : State} (h : xK D cA U) (hc : ci = 1 ∨ ci = 2 ∨ ci = 3) : va_AO (RRf ci) U := by
  rcases hc with rfl | rfl | rfl
  · exact h.2.2.1
  · exact h.2.2.2.1
  · exact h.2.2.2.2
theorem c_newR (hC : xOk C cc own nL rm rt) (hd : decode cc pc = .ok (.anewarray idx, 3)) (hcl : Cond.classLink own idx (RRf ci) ∈ BIG) (hc : ci = 1 ∨ ci = 2 ∨ ci = 3) {N : Nat} {x : Int32} (hx0 : ¬ x < 0) (hN : x.toNatClampNeg = N) (hN2 : N ≤ 10000) (hb9 : b + m < 900) (hwf : WFr hr (b + m)) (hok : okL (b + m) (lv.map Prod.snd ++ st)) (hg : xGr C (b + m)) (h1 : k + 1 ≤ rm.cells) (h2 : n + N ≤ rm.slots) (kk : KW C b (pc + 3) lv (.ref (b + m) :: st) (m + 1) (va_up sh (b + m) (22 + ci, N)) (clr hr (b + m)) (k + 1) (n + N)) : KW C b pc lv (.int x :: st) m sh hr k n := by
  obtain ⟨p, l, e, R, s, mt, args, below, meth, c, D, cA, A, nL', G, Q⟩ := C
  obtain ⟨hx, hb, -, hown, hts, hK, hA0, -, hRR, -⟩ := hC
  subst hRR
  intro ad H locs ls hG hT hP hA hS hl
  obtain ⟨ok1, ok2⟩ := ok_app hok
  refine va_newq (C := RRf ci) hx hb hown (hts _ hcl) (ao_of hK hc) hK.1 hP (xD_of hA) hS hA0 hx0 hN (by omega) h1 h2 hd (fun a z H1 hK1 hP1 hD1 hS1 => ?_)
  have hz := ra_ref hc hK.1 hK1
  subst hz
  have hW := xW_grow (cA := cA) (ad := ad) (sh := sh) (a := a) (s := (22 + ci, N)) (e := .inl (cA (22 + ci), N, .inr (.inr (.inr (.inr (fun _ => none)))))) hwf (by
    rw [xE_ref (ci := ci) (len := N) (by simp [va_up])]
    simp [zg, clr])
  rw [hW] at hP1 hD1
  have hs := up_same (ad := ad) (a := a) hb9
  have hkk := kk (va_up ad (b + m) a) H1 locs ls (hg ad _ hs hG) (hT.ad (hs 900 (Or.inr (Nat.le_refl _))) (hs 901 (Or.inr (by omega)))) hP1 (xAd_of hD1) hS1 (by rw [xl_ok hs ok1]; exact hl)
  rw [List.map_cons, st_ok hs ok2] at hkk
  simpa [xv, va_up] using hkk
def xIni (C : Cx) : Prop := match C with
  | (_, _, _, _, _, _, _, _, meth, _, _, _, _, _, _, _) => meth.name = "<init>"
theorem c_putF {q j r : Nat} (hC : xOk C cc own nL rm rt) (hi : xIni C) (hd : decode cc pc = .ok (.putfield idx, 3)) (hl : FK own idx ci j 1) (hfin : (TTf ci j).2.2.2 = true) (hdecl : (TTf ci j).1 = own) (hn : ∀ x, narrow (TYf ci j) (.ref x) = .ref x) (hfit : ∀ x, fits (TYf ci j) (.ref x) = true) (hq : xIn (b, m) q ∧ (sh q).1 = ci) (kk : KW C b (pc + 3) lv st m sh (up2 hr q j (some r)) k n) : KW C b pc lv (.ref r :: .ref q :: st) m sh hr k n := by
  obtain ⟨p, l, e, R, s, mt, args, below, meth, c, D, cA, A, nL', G, Q⟩ := C
  obtain ⟨hx, hb, -, hown, hts, hK, -⟩ := hC
  intro ad H locs ls hG hT hP hA hS hl'
  obtain ⟨hl, hj, hf⟩ := hl
  have he := xW_at (cA := cA) (ad := ad) (w := zw b m sh hr) hq.1
  rw [xE_obj hq.2 hj.1] at he
  refine va_putF (ty := TYf ci j) (v := .ref (ad r)) hx hb hts (cl_w hj.1) (TYf ci) (cl_ty ci hj.1) (cl_nm ci hj.1) hown hK.1 hP (xD_of hA) hS (q - b) he (cl_at hj.1) j hj.2 (hts _ hl) (fun _ h => h) hfin hi hdecl (cl_ty ci hj.1 j hj.2) (hn _) (hfit _) (by simpa using hj.2) hd (fun H1 locs1 hP1 hD1 hS1 => ?_)
  have hu := obj_upd (cA := cA) (ad := ad) (g := (b, m)) (sh := sh) (a := zg hr) (b := zg (up2 hr q j (some r))) (v := .ref (ad r)) (j := j) hq.1 hq.2 hj.1 (by rw [hf]; simp [fvl, up2, zg, va_re, va_rf]) (fun i hi => by unfold fvl; simp [up2, zg, hi]) (fun z hz => ⟨rfl, up2_row hz, rfl⟩)
  rw [hu] at hP1 hD1
  exact kk ad H1 locs1 ls hG hT hP1 (xAd_of hD1) hS1 hl'
theorem c_aast {q r len : Nat} (hC : xOk C cc own nL rm rt) (hd : decode cc pc = .ok (.aastore, 1)) (hc : ci = 1 ∨ ci = 2 ∨ ci = 3) (hq : xIn (b, m) q ∧ sh q = (22 + ci, len)) (hrr : xIn (b, m) r ∧ (sh r).1 = ci) {i : Int32} (hi : vp_in i len) {z : Nat} (hz : i.toNatClampNeg = z) (kk : KW C b (pc + 1) lv st m sh (up2 hr q z (some r)) k n) : KW C b pc lv (.ref r :: .int i :: .ref q :: st) m sh hr k n := by
  subst hz
  exact x_aast hC hd hc hq hrr hi kk
theorem c_oinit {q : Nat} {w : Wd} (hC : xOk C cc own nL rm rt) (hd : decode cc pc = .ok (.invokespecial idx, 3)) (h1 : Cond.methodLink own idx objectInit ∈ BIG) (h2 : Cond.instanceMethod objectInit ∈ BIG) (h3 : Cond.code objectInit ⟨#[0xb1]⟩ 1 none ∈ BIG) (hf : 1 ≤ rm.frames) (hlo : (st.map fun v => v.category).sum + 12 ≤ rm.locals) (kk : AW C (pc + 3) lv st w k n) : AW C pc lv (.ref q :: st) w k n := by
  obtain ⟨p, l, e, R, s, mt, args, below, meth, c, D, cA, A, nL', G, Q⟩ := C
  obtain ⟨hx, hb, ⟨hml, hnl⟩, hown, hts, hK, hA0, -, hRR, -⟩ := hC
  subst hRR; subst hnl
  intro ad H locs ls hG hT hP hA hS hl
  exact W.objInit hx hb hown (hts _ h1) (hts _ h2) (hts _ h3) rfl (by rw [hml]; exact hl.1) rfl hd hf (by show 2 * 0 + _ + 12 ≤ _; rw [cat_map]; omega) (kk ad H locs ls hG hT hP hA hS hl)
/-- how a constructor ends -/
def xQ1 (D : va_G) (cA : Nat → ClassId) (ad : Nat → Nat) (n0 b m : Nat) (A : Nat → Prop) (Po : (Nat → Nat × Nat) → (Nat → Nat → Option Nat) → Prop) : Array Value → State → Outcome → State → Prop := fun _ st oc t => (∃ (ad' : Nat → Nat) (sh : Nat → Nat × Nat) (hr : Nat → Nat → Option Nat), oc = .returned none ∧ (∀ i, (i < n0 ∨ 900 ≤ i) → ad' i = ad i) ∧ Po sh hr ∧ va_P D CL (xW cA ad' (zw b m sh hr)) t.heap ∧ xAd A ad' (b, m)) ∧ va_F A st t
def MT1 (y : MethodName) (bytes : ByteArray) (maxL : Nat) (rm : Room) (mc ms : Nat) (avs : List Value) (b m : Nat) (sh : Nat → Nat × Nat) (hr : Nat → Nat → Option Nat) (Po : (Nat → Nat × Nat) → (Nat → Nat → Option Nat) → Prop) : Prop :=
  ∀ (l : Launch) (D : va_G) (cA : Nat → ClassId) (ad : Nat → Nat) (sz : Nat), Met l y (Cond.code y bytes maxL none :: BIG) rm (xPc D cA ad avs (zw b m sh hr) sz) (xQ1 D cA ad (b + m) b (m + mc) (va_A (xW cA ad (zw b m sh hr)) sz) Po) mc ms (va_A (xW cA ad (zw b m sh hr)) sz)
def xEnd1 (C : Cx) (n0 b m mc ms : Nat) (Po : (Nat → Nat × Nat) → (Nat → Nat → Option Nat) → Prop) : Prop := ∃ (p : Program) (l : Launch) (e : Env) (s : State) (mt : MethodId) (args : Array Value) (below : List Frame) (meth : Method) (c : Code) (D : va_G) (cA : Nat → ClassId) (ad : Nat → Nat) (rm : Room) (nL : Nat) (A : Nat → Prop), C = (p, l, e, rm, s, mt, args, below, meth, c, D, cA, A, nL, (fun ad' => ∀ i, (i < n0 ∨ 900 ≤ i) → ad' i = ad i), MQ below (xQ1 D cA ad n0 b m A Po) args s mc ms A)
theorem xEnd1.gr {n0 mc ms i : Nat} {Po : (Nat → Nat × Nat) → (Nat → Nat → Option Nat) → Prop} (h : xEnd1 C n0 b m mc ms Po) (hi : n0 ≤ i) : xGr C i := by
  obtain ⟨p, l, e, s, mt, args, below, meth, c, D, cA, ad, rm, nL, A, rfl⟩ := h
  intro ad1 ad2 h1 h2 j hj
  rw [h1 j (hj.imp (fun z => by omega) id), h2 j hj]
theorem c_vret {n0 mc ms : Nat} {Po : (Nat → Nat × Nat) → (Nat → Nat → Option Nat) → Prop} (hC : xOk C cc own nL rm none) (hE : xEnd1 C n0 b m mc ms Po) (hd : decode cc pc = .ok (.return_, 1)) (h : Po sh hr) : KW C b pc lv [] m sh hr mc ms := by
  obtain ⟨p, l, e, s, mt, args, below, meth, c, D, cA, ad0, rm', nL', A, rfl⟩ := hE
  obtain ⟨hx, hb, -, -, -, -, -, hlocks, -, hr'⟩ := hC
  intro ad H locs ls hG hT hP hA hS hl
  exact W.vret hx hb hr' (fun t ht hW => ⟨⟨ad, sh, hr, rfl, hG, h, by rw [ht]; exact hP, hA⟩, hS.F ht⟩) hS.2.2 hd hlocks
theorem xv_map (ad : Nat → Nat) : ∀ vs : List Value, lv_args 0 (vs.map (xv ad)) = xl ad (lv_args 0 vs) := by
  have key : ∀ (vs : List Value) (i : Nat), lv_args i (vs.map (xv ad)) = xl ad (lv_args i vs) := by
    intro vs
    induction vs with
    | nil => intro i; rfl
    | cons v vs ih =>
      intro i
      simp only [List.map_cons, lv_args, xl, xv_cat]
      rw [ih]
      rfl
  exact fun vs => key vs 0
theorem xv_len (ad : Nat → Nat) : ∀ vs : List Value, (lg_sl (vs.map (xv ad))).length = (lg_sl vs).length := by
  intro vs
  induction vs with
  | nil => rfl
  | cons v vs ih => cases v <;> simp_all [lg_sl, xv, Value.category]
theorem MT1.of {y : MethodName} {bytes : ByteArray} {maxL : Nat} {rm : Room} {mc ms : Nat} {avs : List Value} {Po : (Nat → Nat × Nat) → (Nat → Nat → Option Nat) → Prop} (hy : plainName y.cls = true) (hn : (lg_sl avs).length ≤ maxL) (hin : y.name = "<init>")
    (h : ∀ C : Cx, xOk C bytes y.cls maxL rm none → xIni C → xEnd1 C (b + m) b (m + mc) mc ms Po → KW C b 0 (lv_args 0 avs) [] m sh hr 0 0) : MT1 y bytes maxL rm mc ms avs b m sh hr Po := by
  intro l D cA ad sz
  refine Met.ofW (cc := bytes) (maxL := maxL) (ret := none) hy rfl ?_
  intro p e s mt args below meth c s₁ B hml hv
  obtain ⟨rfl, hsz, hK, hP, hD, hT⟩ := hv
  subst hsz
  have hts := atoms_spec (ws := Cond.code y bytes maxL none :: BIG) B.pre
  have hown : s.vm.findClass y.cls = some mt.cls := findClass_of_methodNamed B.named
  have hini : meth.name = "<init>" := (name_of_methodNamed B.named B.method).1.trans hin
  have hl := lv_entry (avs.map (xv ad)) (n := maxL) (by rw [xv_len]; exact hn)
  rw [lg_entry_eq]
  rw [xv_map] at hl
  exact h (p, l, e, rm, s, mt, (avs.map (xv ad)).toArray, below, meth, c, D, cA, va_A (xW cA ad (zw b m sh hr)) s.heap.size, maxL, (fun ad' => ∀ i, (i < b + m ∨ 900 ≤ i) → ad' i = ad i), MQ below (xQ1 D cA ad (b + m) b (m + mc) (va_A (xW cA ad (zw b m sh hr)) s.heap.size) Po) (avs.map (xv ad)).toArray s mc ms (va_A (xW cA ad (zw b m sh hr)) s.heap.size)) ⟨B.exec, B.bytes, ⟨hml, rfl⟩, hown, fun w hw => hts w (List.mem_cons_of_mem _ hw), hK, fun q h => Or.inr h, B.notSynchronized, rfl, B.returns⟩ hini ⟨p, l, e, s, mt, _, below, meth, c, D, cA, ad, rm, maxL, _, rfl⟩ ad s.heap [] _ (fun _ _ => rfl) hT hP (xAd_w hD (fun i hi _ => va_A.in (xW_at (w := zw b m sh hr) hi))) va_S.rf hl
theorem c_back {p : Program} {l : Launch} {e : Env} {R : Room} {s : State} {mt : MethodId} {args : Array Value} {below : List Frame} {meth : Method} {c : Code} {H : Heap} {locs : List Loc} {Q : State → Prop} {ls : Array Slot} {rest st0 : List Value} {aa : Array Value} {D : va_G} {cA : Nat → ClassId} {ad : Nat → Nat} {A0 A1 : Nat → Prop} {n0 mc ms : Nat} {Po : (Nat → Nat × Nat) → (Nat → Nat → Option Nat) → Prop}
    (hr' : va_Run p l e R s mt args below meth c H locs k n mc ms (F0 mt pc ls st0) rest (xQ1 D cA ad n0 b m A1 Po aa) A1) (hS : va_S A0 s.heap H locs) (hA : ∀ q, A1 q → A0 q)
    (kk : ∀ (ad' : Nat → Nat) (sh : Nat → Nat × Nat) (hr : Nat → Nat → Option Nat) (H1 : Heap) (locs1 : List Loc), (∀ i, (i < n0 ∨ 900 ≤ i) → ad' i = ad i) → Po sh hr → va_P D CL (xW cA ad' (zw b m sh hr)) H1 → xAd A0 ad' (b, m) → va_S A0 s.heap H1 locs1 → W p l e R s mt args below meth c H1 locs1 (k + mc) (n + ms) Q (F0 mt (pc + 3) ls rest)) : W p l e R s mt args below meth c H locs k n Q (F0 mt pc ls st0) := by
  intro T hT X
  obtain ⟨v, st₀, t, T', L, h0, X', hL, e1, e2, ⟨⟨ad', sh, hr, hv, hag, hp, hb, hAd⟩, hz, hk⟩, stp⟩ := hr' T hT X
  cases hv
  rw [h0] at hz hk
  obtain ⟨t2, a1, b1⟩ := kk ad' sh hr T'.heap (locs ++ L) hag hp (by rw [e1]; exact hb) (xAd_w hAd (fun i _ h => hA _ h))
    ⟨Nat.le_trans hS.1 (by rw [e1]; exact hz), fun q h1 h2 => by rw [e1, hk q (Nat.lt_of_lt_of_le h1 hS.1) (fun z => h2 (hA q z))]; exact hS.2.1 q h1 h2, fun q hq => by
      rcases List.mem_append.mp hq with h | h
      · exact hS.2.2 q h
      · exact hA _ (hL q h)⟩ T' rfl X'
  exact ⟨t2, stp t2 a1, b1⟩
def MI1 (y : MethodName) (bytes : ByteArray) (maxL : Nat) (n : Nat) : Prop := Cond.instanceMethod y ∈ BIG ∧ Cond.initialized y.cls ∈ BIG ∧ Cond.code y bytes maxL none ∈ BIG ∧ y.name = "<init>" ∧ y.cls ≠ "java/lang/invoke/MethodHandle" ∧ y.cls ≠ "java/lang/invoke/VarHandle" ∧ (parseMethodDescriptor y.desc).map (fun d => d.parameters.length) = some n
theorem c_callI {y : MethodName} {bytes : ByteArray} {maxL nA q mc ms : Nat} {rmy : Room} {avs : List Value} {Po : (Nat → Nat × Nat) → (Nat → Nat → Option Nat) → Prop} (hC : xOk C cc own nL rm rt) (hd : decode cc pc = .ok (.invokespecial idx, 3)) (hl : Cond.methodLink own idx y ∈ BIG) (hI : MI1 y bytes maxL nA) (hn : avs.length = nA) (hM : MT1 y bytes maxL rmy mc ms (.ref q :: avs) b m sh hr Po) (hok : okL (b + m) (lv.map Prod.snd ++ st)) (hg : xGr C (b + m)) (hc : (st.map fun v => v.category).sum ≤ 8) (hz : rmy.cells = mc ∧ rmy.slots = ms) (hR : rmy.frames + 1 ≤ rm.frames ∧ 8 + (maxL + 11) + rmy.locals ≤ rm.locals) (hf : k + mc ≤ rm.cells ∧ n + ms ≤ rm.slots)
    (kk : ∀ (sh' : Nat → Nat × Nat) (hr' : Nat → Nat → Option Nat), Po sh' hr' → KW C b (pc + 3) lv st (m + mc) sh' hr' (k + mc) (n + ms)) : KW C b pc lv (avs.reverse ++ .ref q :: st) m sh hr k n := by
  obtain ⟨p, l, e, R, s, mt, args, below, meth, c, D, cA, A, nL', G, Q⟩ := C
  obtain ⟨hx, hb, ⟨hml, hnl⟩, hown, hts, hK, hA0, -, hRR, -⟩ := hC
  subst hRR; subst hnl
  intro ad H locs ls hG hT hP hA hS hl'
  obtain ⟨ok1, ok2⟩ := ok_app hok
  obtain ⟨i1, i3, i4, i5, i7⟩ := hI
  obtain ⟨hpre, hF⟩ := x_pre (avs := .ref q :: avs) hK hP hA hS hA0 hT
  refine c_back (va_runI (As := avs.map (xv ad)) (rest := st.map (xv ad)) ⟨hx, hb, hml, hown, hts⟩ (hM l D cA ad H.size) (cwI nA hts (big_in i4) rfl hz.1 hz.2 (hts _ i3) (hts _ hl) (hts _ i1) i5 i7 hR) ⟨xPc_blind, fun U hU hW => hpre U hU hW⟩ rfl (by rw [List.length_map]; exact hn) hl'.1 ?_ ?_ hd hf) hS hF (fun ad' sh' hr' H1 locs1 hag hp hP1 hA1 hS1 => ?_)
  · simp [xv, List.map_append, List.map_reverse]
  · exact lv_room (by rw [cat_map]; exact hc)
  · have hkk := kk sh' hr' hp ad' H1 locs1 ls (hg ad ad' hag hG) (hT.ad (hag 900 (Or.inr (Nat.le_refl _))) (hag 901 (Or.inr (by omega)))) hP1 hA1 hS1 (by rw [xl_ok hag ok1]; exact hl')
    rw [st_ok hag ok2] at hkk
    exact hkk
theorem c_callIN {y : MethodName} {bytes : ByteArray} {maxL nA q mc ms : Nat} {host : String} {rmy : Room} {avs : List Value} {Po : (Nat → Nat × Nat) → (Nat → Nat → Option Nat) → Prop} (hC : xOk C cc own nL rm rt) (hd : decode cc pc = .ok (.invokespecial idx, 3)) (hl : Cond.methodLinkNest own idx y host ∈ lw_tbl.filter isNest) (hI : MI1 y bytes maxL nA) (hn : avs.length = nA) (hM : MT1 y bytes maxL rmy mc ms (.ref q :: avs) b m sh hr Po) (hok : okL (b + m) (lv.map Prod.snd ++ st)) (hg : xGr C (b + m)) (hc : (st.map fun v => v.category).sum ≤ 8) (hz : rmy.cells = mc ∧ rmy.slots = ms) (hR : rmy.frames + 1 ≤ rm.frames ∧ 8 + (maxL + 11) + rmy.locals ≤ rm.locals) (hf : k + mc ≤ rm.cells ∧ n + ms ≤ rm.slots)
    (kk : ∀ (sh' : Nat → Nat × Nat) (hr' : Nat → Nat → Option Nat), Po sh' hr' → KW C b (pc + 3) lv st (m + mc) sh' hr' (k + mc) (n + ms)) : KW C b pc lv (avs.reverse ++ .ref q :: st) m sh hr k n := by
  obtain ⟨p, l, e, R, s, mt, args, below, meth, c, D, cA, A, nL', G, Q⟩ := C
  obtain ⟨hx, hb, ⟨hml, hnl⟩, hown, hts, hK, hA0, -, hRR, -⟩ := hC
  subst hRR; subst hnl
  intro ad H locs ls hG hT hP hA hS hl'
  obtain ⟨ok1, ok2⟩ := ok_app hok
  obtain ⟨i1, i3, i4, i5, i7⟩ := hI
  obtain ⟨hpre, hF⟩ := x_pre (avs := .ref q :: avs) hK hP hA hS hA0 hT
  refine c_back (va_runIN (As := avs.map (xv ad)) (rest := st.map (xv ad)) ⟨hx, hb, hml, hown, hts⟩ (hM l D cA ad H.size) ⟨va_cnB nA hts (big_in i4) rfl hz.1 hz.2 (hK.2.1 _ hl) (hts _ i3) i7 hR, i5, hts _ i1⟩ ⟨xPc_blind, fun U hU hW => hpre U hU hW⟩ rfl (by rw [List.length_map]; exact hn) hl'.1 ?_ ?_ hd hf) hS hF (fun ad' sh' hr' H1 locs1 hag hp hP1 hA1 hS1 => ?_)
  · simp [xv, List.map_append, List.map_reverse]
  · exact lv_room (by rw [cat_map]; exact hc)
  · have hkk := kk sh' hr' hp ad' H1 locs1 ls (hg ad ad' hag hG) (hT.ad (hag 900 (Or.inr (Nat.le_refl _))) (hag 901 (Or.inr (by omega)))) hP1 hA1 hS1 (by rw [xl_ok hag ok1]; exact hl')
    rw [st_ok hag ok2] at hkk
    exact hkk
end XK
