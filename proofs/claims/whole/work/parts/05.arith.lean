section XA
variable {C : Cx} {cc : ByteArray} {own : String} {nL : Nat} {rm : Room} {rt : Option FieldType} {pc : Nat} {lv : List (Nat × Value)} {st : List Value} {w : Wd} {k n : Nat}
theorem x_iadd (hC : xOk C cc own nL rm rt) {x y : Int32} (hd : decode cc pc = .ok (.iadd, 1)) (kk : AW C (pc + 1) lv (.int (x + y) :: st) w k n) : AW C pc lv (.int y :: .int x :: st) w k n := by
  obtain ⟨p, l, e, R, s, m, args, below, meth, c, D, cA, A, nL', G, Q⟩ := C
  obtain ⟨hx, hb, -⟩ := hC
  intro ad H locs ls hG hT hP hA hS hl
  exact lv_iadd hx hb hd (kk ad H locs ls hG hT hP hA hS hl)
theorem x_isub (hC : xOk C cc own nL rm rt) {x y : Int32} (hd : decode cc pc = .ok (.isub, 1)) (kk : AW C (pc + 1) lv (.int (x - y) :: st) w k n) : AW C pc lv (.int y :: .int x :: st) w k n := by
  obtain ⟨p, l, e, R, s, m, args, below, meth, c, D, cA, A, nL', G, Q⟩ := C
  obtain ⟨hx, hb, -⟩ := hC
  intro ad H locs ls hG hT hP hA hS hl
  exact lv_isub hx hb hd (kk ad H locs ls hG hT hP hA hS hl)
theorem x_imul (hC : xOk C cc own nL rm rt) {x y : Int32} (hd : decode cc pc = .ok (.imul, 1)) (kk : AW C (pc + 1) lv (.int (x * y) :: st) w k n) : AW C pc lv (.int y :: .int x :: st) w k n := by
  obtain ⟨p, l, e, R, s, m, args, below, meth, c, D, cA, A, nL', G, Q⟩ := C
  obtain ⟨hx, hb, -⟩ := hC
  intro ad H locs ls hG hT hP hA hS hl
  exact lv_imul hx hb hd (kk ad H locs ls hG hT hP hA hS hl)
theorem x_iand (hC : xOk C cc own nL rm rt) {x y : Int32} (hd : decode cc pc = .ok (.iand, 1)) (kk : AW C (pc + 1) lv (.int (x &&& y) :: st) w k n) : AW C pc lv (.int y :: .int x :: st) w k n := by
  obtain ⟨p, l, e, R, s, m, args, below, meth, c, D, cA, A, nL', G, Q⟩ := C
  obtain ⟨hx, hb, -⟩ := hC
  intro ad H locs ls hG hT hP hA hS hl
  exact lv_iand hx hb hd (kk ad H locs ls hG hT hP hA hS hl)
theorem x_ior (hC : xOk C cc own nL rm rt) {x y : Int32} (hd : decode cc pc = .ok (.ior, 1)) (kk : AW C (pc + 1) lv (.int (x ||| y) :: st) w k n) : AW C pc lv (.int y :: .int x :: st) w k n := by
  obtain ⟨p, l, e, R, s, m, args, below, meth, c, D, cA, A, nL', G, Q⟩ := C
  obtain ⟨hx, hb, -⟩ := hC
  intro ad H locs ls hG hT hP hA hS hl
  exact lv_ior hx hb hd (kk ad H locs ls hG hT hP hA hS hl)
theorem x_ixor (hC : xOk C cc own nL rm rt) {x y : Int32} (hd : decode cc pc = .ok (.ixor, 1)) (kk : AW C (pc + 1) lv (.int (x ^^^ y) :: st) w k n) : AW C pc lv (.int y :: .int x :: st) w k n := by
  obtain ⟨p, l, e, R, s, m, args, below, meth, c, D, cA, A, nL', G, Q⟩ := C
  obtain ⟨hx, hb, -⟩ := hC
  intro ad H locs ls hG hT hP hA hS hl
  exact lv_ixor hx hb hd (kk ad H locs ls hG hT hP hA hS hl)
theorem x_idiv (hC : xOk C cc own nL rm rt) {x y : Int32} (hd : decode cc pc = .ok (.idiv, 1)) (hne : ¬ y = 0) (kk : AW C (pc + 1) lv (.int (x / y) :: st) w k n) : AW C pc lv (.int y :: .int x :: st) w k n := by
  obtain ⟨p, l, e, R, s, m, args, below, meth, c, D, cA, A, nL', G, Q⟩ := C
  obtain ⟨hx, hb, -⟩ := hC
  intro ad H locs ls hG hT hP hA hS hl
  exact lv_idiv hx hb hd hne (kk ad H locs ls hG hT hP hA hS hl)
theorem x_irem (hC : xOk C cc own nL rm rt) {x y : Int32} (hd : decode cc pc = .ok (.irem, 1)) (hne : ¬ y = 0) (kk : AW C (pc + 1) lv (.int (x - x / y * y) :: st) w k n) : AW C pc lv (.int y :: .int x :: st) w k n := by
  obtain ⟨p, l, e, R, s, m, args, below, meth, c, D, cA, A, nL', G, Q⟩ := C
  obtain ⟨hx, hb, -⟩ := hC
  intro ad H locs ls hG hT hP hA hS hl
  exact lv_irem hx hb hd hne (kk ad H locs ls hG hT hP hA hS hl)
theorem x_ishl (hC : xOk C cc own nL rm rt) {x y : Int32} (hd : decode cc pc = .ok (.ishl, 1)) (kk : AW C (pc + 1) lv (.int (x <<< (y &&& 31)) :: st) w k n) : AW C pc lv (.int y :: .int x :: st) w k n := by
  obtain ⟨p, l, e, R, s, m, args, below, meth, c, D, cA, A, nL', G, Q⟩ := C
  obtain ⟨hx, hb, -⟩ := hC
  intro ad H locs ls hG hT hP hA hS hl
  exact lv_ishl hx hb hd (kk ad H locs ls hG hT hP hA hS hl)
theorem x_ishr (hC : xOk C cc own nL rm rt) {x y : Int32} (hd : decode cc pc = .ok (.ishr, 1)) (kk : AW C (pc + 1) lv (.int (x >>> (y &&& 31)) :: st) w k n) : AW C pc lv (.int y :: .int x :: st) w k n := by
  obtain ⟨p, l, e, R, s, m, args, below, meth, c, D, cA, A, nL', G, Q⟩ := C
  obtain ⟨hx, hb, -⟩ := hC
  intro ad H locs ls hG hT hP hA hS hl
  exact lv_ishr hx hb hd (kk ad H locs ls hG hT hP hA hS hl)
theorem x_ladd (hC : xOk C cc own nL rm rt) {x y : Int64} (hd : decode cc pc = .ok (.ladd, 1)) (kk : AW C (pc + 1) lv (.long (x + y) :: st) w k n) : AW C pc lv (.long y :: .long x :: st) w k n := by
  obtain ⟨p, l, e, R, s, m, args, below, meth, c, D, cA, A, nL', G, Q⟩ := C
  obtain ⟨hx, hb, -⟩ := hC
  intro ad H locs ls hG hT hP hA hS hl
  exact lv_ladd hx hb hd (kk ad H locs ls hG hT hP hA hS hl)
theorem x_lmul (hC : xOk C cc own nL rm rt) {x y : Int64} (hd : decode cc pc = .ok (.lmul, 1)) (kk : AW C (pc + 1) lv (.long (x * y) :: st) w k n) : AW C pc lv (.long y :: .long x :: st) w k n := by
  obtain ⟨p, l, e, R, s, m, args, below, meth, c, D, cA, A, nL', G, Q⟩ := C
  obtain ⟨hx, hb, -⟩ := hC
  intro ad H locs ls hG hT hP hA hS hl
  exact lv_lmul hx hb hd (kk ad H locs ls hG hT hP hA hS hl)
theorem x_i2l (hC : xOk C cc own nL rm rt) {x : Int32} (hd : decode cc pc = .ok (.i2l, 1)) (kk : AW C (pc + 1) lv (.long x.toInt64 :: st) w k n) : AW C pc lv (.int x :: st) w k n := by
  obtain ⟨p, l, e, R, s, m, args, below, meth, c, D, cA, A, nL', G, Q⟩ := C
  obtain ⟨hx, hb, -⟩ := hC
  intro ad H locs ls hG hT hP hA hS hl
  exact lv_i2l hx hb hd rfl (kk ad H locs ls hG hT hP hA hS hl)
theorem x_lcmp (hC : xOk C cc own nL rm rt) {x y : Int64} (hd : decode cc pc = .ok (.lcmp, 1)) (kk : AW C (pc + 1) lv (.int (lg_cmp x y) :: st) w k n) : AW C pc lv (.long y :: .long x :: st) w k n := by
  obtain ⟨p, l, e, R, s, m, args, below, meth, c, D, cA, A, nL', G, Q⟩ := C
  obtain ⟨hx, hb, -⟩ := hC
  intro ad H locs ls hG hT hP hA hS hl
  exact W.lcmp hx hb hd (kk ad H locs ls hG hT hP hA hS hl)
theorem xv_cat (ad : Nat → Nat) (v : Value) : (xv ad v).category = v.category := by cases v <;> rfl
theorem x_dup (hC : xOk C cc own nL rm rt) {v : Value} (hd : decode cc pc = .ok (.dup, 1)) (hv : v.category = 1) (kk : AW C (pc + 1) lv (v :: v :: st) w k n) : AW C pc lv (v :: st) w k n := by
  obtain ⟨p, l, e, R, s, m, args, below, meth, c, D, cA, A, nL', G, Q⟩ := C
  obtain ⟨hx, hb, -⟩ := hC
  intro ad H locs ls hG hT hP hA hS hl
  exact lv_dup hx hb hd (by rw [xv_cat]; exact hv) (kk ad H locs ls hG hT hP hA hS hl)
theorem x_pop (hC : xOk C cc own nL rm rt) {v : Value} (hd : decode cc pc = .ok (.pop, 1)) (hv : v.category = 1) (kk : AW C (pc + 1) lv st w k n) : AW C pc lv (v :: st) w k n := by
  obtain ⟨p, l, e, R, s, m, args, below, meth, c, D, cA, A, nL', G, Q⟩ := C
  obtain ⟨hx, hb, -⟩ := hC
  intro ad H locs ls hG hT hP hA hS hl
  exact lv_pop hx hb hd (by rw [xv_cat]; exact hv) (kk ad H locs ls hG hT hP hA hS hl)
theorem x_dup2 (hC : xOk C cc own nL rm rt) {v u : Value} (hd : decode cc pc = .ok (.dup2, 1)) (hv : v.category = 1) (hu : u.category = 1) (kk : AW C (pc + 1) lv (v :: u :: v :: u :: st) w k n) : AW C pc lv (v :: u :: st) w k n := by
  obtain ⟨p, l, e, R, s, m, args, below, meth, c, D, cA, A, nL', G, Q⟩ := C
  obtain ⟨hx, hb, -⟩ := hC
  intro ad H locs ls hG hT hP hA hS hl
  exact lv_dup2_11 hx hb hd (by rw [xv_cat]; exact hv) (by rw [xv_cat]; exact hu) (kk ad H locs ls hG hT hP hA hS hl)
theorem x_goto (hC : xOk C cc own nL rm rt) {off : Int} {tgt : Nat} (hd : decode cc pc = .ok (.goto off, 3)) (ht : (pc : Int) + off = (tgt : Int)) (kk : AW C tgt lv st w k n) : AW C pc lv st w k n := by
  obtain ⟨p, l, e, R, s, m, args, below, meth, c, D, cA, A, nL', G, Q⟩ := C
  obtain ⟨hx, hb, -⟩ := hC
  intro ad H locs ls hG hT hP hA hS hl
  exact lv_goto hx hb hd ht (kk ad H locs ls hG hT hP hA hS hl)
theorem x_if_eq (hC : xOk C cc own nL rm rt) {x : Int32} {off : Int} {tgt : Nat} (hd : decode cc pc = .ok (.ifCond .eq off, 3)) (ht : (pc : Int) + off = (tgt : Int)) (kt : x = 0 → AW C tgt lv st w k n) (kf : ¬ x = 0 → AW C (pc + 3) lv st w k n) : AW C pc lv (.int x :: st) w k n := by
  obtain ⟨p, l, e, R, s, m, args, below, meth, c, D, cA, A, nL', G, Q⟩ := C
  obtain ⟨hx, hb, -⟩ := hC
  intro ad H locs ls hG hT hP hA hS hl
  exact lv_if_eq hx hb hd ht (fun h => kt h ad H locs ls hG hT hP hA hS hl) (fun h => kf h ad H locs ls hG hT hP hA hS hl)
theorem x_icmp_eq (hC : xOk C cc own nL rm rt) {x y : Int32} {off : Int} {tgt : Nat} (hd : decode cc pc = .ok (.if_icmp .eq off, 3)) (ht : (pc : Int) + off = (tgt : Int)) (kt : x = y → AW C tgt lv st w k n) (kf : ¬ x = y → AW C (pc + 3) lv st w k n) : AW C pc lv (.int y :: .int x :: st) w k n := by
  obtain ⟨p, l, e, R, s, m, args, below, meth, c, D, cA, A, nL', G, Q⟩ := C
  obtain ⟨hx, hb, -⟩ := hC
  intro ad H locs ls hG hT hP hA hS hl
  exact lv_icmp_eq hx hb hd ht (fun h => kt h ad H locs ls hG hT hP hA hS hl) (fun h => kf h ad H locs ls hG hT hP hA hS hl)
theorem x_if_ne (hC : xOk C cc own nL rm rt) {x : Int32} {off : Int} {tgt : Nat} (hd : decode cc pc = .ok (.ifCond .ne off, 3)) (ht : (pc : Int) + off = (tgt : Int)) (kt : ¬ x = 0 → AW C tgt lv st w k n) (kf : x = 0 → AW C (pc + 3) lv st w k n) : AW C pc lv (.int x :: st) w k n := by
  obtain ⟨p, l, e, R, s, m, args, below, meth, c, D, cA, A, nL', G, Q⟩ := C
  obtain ⟨hx, hb, -⟩ := hC
  intro ad H locs ls hG hT hP hA hS hl
  exact lv_if_ne hx hb hd ht (fun h => kt h ad H locs ls hG hT hP hA hS hl) (fun h => kf h ad H locs ls hG hT hP hA hS hl)
theorem x_icmp_ne (hC : xOk C cc own nL rm rt) {x y : Int32} {off : Int} {tgt : Nat} (hd : decode cc pc = .ok (.if_icmp .ne off, 3)) (ht : (pc : Int) + off = (tgt : Int)) (kt : ¬ x = y → AW C tgt lv st w k n) (kf : x = y → AW C (pc + 3) lv st w k n) : AW C pc lv (.int y :: .int x :: st) w k n := by
  obtain ⟨p, l, e, R, s, m, args, below, meth, c, D, cA, A, nL', G, Q⟩ := C
  obtain ⟨hx, hb, -⟩ := hC
  intro ad H locs ls hG hT hP hA hS hl
  exact lv_icmp_ne hx hb hd ht (fun h => kt h ad H locs ls hG hT hP hA hS hl) (fun h => kf h ad H locs ls hG hT hP hA hS hl)
theorem x_if_lt (hC : xOk C cc own nL rm rt) {x : Int32} {off : Int} {tgt : Nat} (hd : decode cc pc = .ok (.ifCond .lt off, 3)) (ht : (pc : Int) + off = (tgt : Int)) (kt : x < 0 → AW C tgt lv st w k n) (kf : ¬ x < 0 → AW C (pc + 3) lv st w k n) : AW C pc lv (.int x :: st) w k n := by
  obtain ⟨p, l, e, R, s, m, args, below, meth, c, D, cA, A, nL', G, Q⟩ := C
  obtain ⟨hx, hb, -⟩ := hC
  intro ad H locs ls hG hT hP hA hS hl
  exact lv_if_lt hx hb hd ht (fun h => kt h ad H locs ls hG hT hP hA hS hl) (fun h => kf h ad H locs ls hG hT hP hA hS hl)
theorem x_icmp_lt (hC : xOk C cc own nL rm rt) {x y : Int32} {off : Int} {tgt : Nat} (hd : decode cc pc = .ok (.if_icmp .lt off, 3)) (ht : (pc : Int) + off = (tgt : Int)) (kt : x < y → AW C tgt lv st w k n) (kf : ¬ x < y → AW C (pc + 3) lv st w k n) : AW C pc lv (.int y :: .int x :: st) w k n := by
  obtain ⟨p, l, e, R, s, m, args, below, meth, c, D, cA, A, nL', G, Q⟩ := C
  obtain ⟨hx, hb, -⟩ := hC
  intro ad H locs ls hG hT hP hA hS hl
  exact lv_icmp_lt hx hb hd ht (fun h => kt h ad H locs ls hG hT hP hA hS hl) (fun h => kf h ad H locs ls hG hT hP hA hS hl)
theorem x_if_ge (hC : xOk C cc own nL rm rt) {x : Int32} {off : Int} {tgt : Nat} (hd : decode cc pc = .ok (.ifCond .ge off, 3)) (ht : (pc : Int) + off = (tgt : Int)) (kt : 0 ≤ x → AW C tgt lv st w k n) (kf : ¬ 0 ≤ x → AW C (pc + 3) lv st w k n) : AW C pc lv (.int x :: st) w k n := by
  obtain ⟨p, l, e, R, s, m, args, below, meth, c, D, cA, A, nL', G, Q⟩ := C
  obtain ⟨hx, hb, -⟩ := hC
  intro ad H locs ls hG hT hP hA hS hl
  exact lv_if_ge hx hb hd ht (fun h => kt h ad H locs ls hG hT hP hA hS hl) (fun h => kf h ad H locs ls hG hT hP hA hS hl)
theorem x_icmp_ge (hC : xOk C cc own nL rm rt) {x y : Int32} {off : Int} {tgt : Nat} (hd : decode cc pc = .ok (.if_icmp .ge off, 3)) (ht : (pc : Int) + off = (tgt : Int)) (kt : y ≤ x → AW C tgt lv st w k n) (kf : ¬ y ≤ x → AW C (pc + 3) lv st w k n) : AW C pc lv (.int y :: .int x :: st) w k n := by
  obtain ⟨p, l, e, R, s, m, args, below, meth, c, D, cA, A, nL', G, Q⟩ := C
  obtain ⟨hx, hb, -⟩ := hC
  intro ad H locs ls hG hT hP hA hS hl
  exact lv_icmp_ge hx hb hd ht (fun h => kt h ad H locs ls hG hT hP hA hS hl) (fun h => kf h ad H locs ls hG hT hP hA hS hl)
theorem x_if_gt (hC : xOk C cc own nL rm rt) {x : Int32} {off : Int} {tgt : Nat} (hd : decode cc pc = .ok (.ifCond .gt off, 3)) (ht : (pc : Int) + off = (tgt : Int)) (kt : 0 < x → AW C tgt lv st w k n) (kf : ¬ 0 < x → AW C (pc + 3) lv st w k n) : AW C pc lv (.int x :: st) w k n := by
  obtain ⟨p, l, e, R, s, m, args, below, meth, c, D, cA, A, nL', G, Q⟩ := C
  obtain ⟨hx, hb, -⟩ := hC
  intro ad H locs ls hG hT hP hA hS hl
  exact lv_if_gt hx hb hd ht (fun h => kt h ad H locs ls hG hT hP hA hS hl) (fun h => kf h ad H locs ls hG hT hP hA hS hl)
theorem x_icmp_gt (hC : xOk C cc own nL rm rt) {x y : Int32} {off : Int} {tgt : Nat} (hd : decode cc pc = .ok (.if_icmp .gt off, 3)) (ht : (pc : Int) + off = (tgt : Int)) (kt : y < x → AW C tgt lv st w k n) (kf : ¬ y < x → AW C (pc + 3) lv st w k n) : AW C pc lv (.int y :: .int x :: st) w k n := by
  obtain ⟨p, l, e, R, s, m, args, below, meth, c, D, cA, A, nL', G, Q⟩ := C
  obtain ⟨hx, hb, -⟩ := hC
  intro ad H locs ls hG hT hP hA hS hl
  exact lv_icmp_gt hx hb hd ht (fun h => kt h ad H locs ls hG hT hP hA hS hl) (fun h => kf h ad H locs ls hG hT hP hA hS hl)
theorem x_if_le (hC : xOk C cc own nL rm rt) {x : Int32} {off : Int} {tgt : Nat} (hd : decode cc pc = .ok (.ifCond .le off, 3)) (ht : (pc : Int) + off = (tgt : Int)) (kt : x ≤ 0 → AW C tgt lv st w k n) (kf : ¬ x ≤ 0 → AW C (pc + 3) lv st w k n) : AW C pc lv (.int x :: st) w k n := by
  obtain ⟨p, l, e, R, s, m, args, below, meth, c, D, cA, A, nL', G, Q⟩ := C
  obtain ⟨hx, hb, -⟩ := hC
  intro ad H locs ls hG hT hP hA hS hl
  exact lv_if_le hx hb hd ht (fun h => kt h ad H locs ls hG hT hP hA hS hl) (fun h => kf h ad H locs ls hG hT hP hA hS hl)
theorem x_icmp_le (hC : xOk C cc own nL rm rt) {x y : Int32} {off : Int} {tgt : Nat} (hd : decode cc pc = .ok (.if_icmp .le off, 3)) (ht : (pc : Int) + off = (tgt : Int)) (kt : x ≤ y → AW C tgt lv st w k n) (kf : ¬ x ≤ y → AW C (pc + 3) lv st w k n) : AW C pc lv (.int y :: .int x :: st) w k n := by
  obtain ⟨p, l, e, R, s, m, args, below, meth, c, D, cA, A, nL', G, Q⟩ := C
  obtain ⟨hx, hb, -⟩ := hC
  intro ad H locs ls hG hT hP hA hS hl
  exact lv_icmp_le hx hb hd ht (fun h => kt h ad H locs ls hG hT hP hA hS hl) (fun h => kf h ad H locs ls hG hT hP hA hS hl)
theorem x_tsw (hC : xOk C cc own nL rm rt) {x : Int32} {dflt lo hi : Int} {offs : Array Int} {len tgt : Nat} (hd : decode cc pc = .ok (.tableswitch dflt lo hi offs, len)) (T : List Nat) (hT' : offs.toList = T.map (fun t : Nat => (t : Int) - (pc : Int))) (hlen : hi = lo + ((T.length : Int) - 1)) (ht : (pc : Int) + dflt = (tgt : Int)) (kd : (x.toInt < lo ∨ hi < x.toInt) → AW C tgt lv st w k n) (ks : ∀ (i t : Nat), T[i]? = some t → x.toInt = lo + (i : Int) → AW C t lv st w k n) : AW C pc lv (.int x :: st) w k n := by
  obtain ⟨p, l, e, R, s, m, args, below, meth, c, D, cA, A, nL', G, Q⟩ := C
  obtain ⟨hx, hb, -⟩ := hC
  intro ad H locs ls hG hT hP hA hS hl
  by_cases h : x.toInt < lo ∨ hi < x.toInt
  · exact lv_tableOut hx hb hd h ht (kd h ad H locs ls hG hT hP hA hS hl)
  · have h1 : ¬ x.toInt < lo := fun q => h (Or.inl q)
    have h2 : ¬ hi < x.toInt := fun q => h (Or.inr q)
    have hi' : (x.toInt - lo).toNat < T.length := by omega
    obtain ⟨t, htt⟩ : ∃ t, T[(x.toInt - lo).toNat]? = some t := ⟨_, List.getElem?_eq_getElem hi'⟩
    have ho : offs[(x.toInt - lo).toNat]? = some ((t : Int) - (pc : Int)) := by
      rw [← Array.getElem?_toList, hT', List.getElem?_map, htt]
      rfl
    exact lv_tableIn hx hb hd h1 h2 ho (by omega) (ks _ t htt (by omega) ad H locs ls hG hT hP hA hS hl)
end XA
