theorem vu {α : Type} {f : Nat → α} {n q : Nat} {x : α} (h : q < n) : va_up f n x q = f q := by unfold va_up; rw [if_neg (by omega)]
theorem vn {α : Type} {f : Nat → α} {n : Nat} {x : α} : va_up f n x n = x := by simp [va_up]
section XKE
variable {C : Cx} {cc : ByteArray} {own : String} {nL : Nat} {rm : Room} {rt : Option FieldType} {pc b m m2 q k n k2 n2 ci idx : Nat} {lv : List (Nat × Value)} {st : List Value} {sh : Nat → Nat × Nat} {hr : Nat → Nat → Option Nat}
theorem c_newE (hq : b + m = q) (hm : m + 1 = m2) (hk : k + 1 = k2) (hn : n + NF ci = n2) (hC : xOk C cc own nL rm rt) (hd : decode cc pc = .ok (.new idx, 3)) (hcl : Cond.classLink own idx (RRf ci) ∈ BIG) (hin : Cond.instantiable (RRf ci) (NF ci) ∈ BIG) (hini : Cond.initialized (RRf ci) ∈ BIG) (hc : ci < 10) (hb9 : q < 900) (hwf : WFr hr q) (hok : okL q (lv.map Prod.snd ++ st)) (hg : xGr C q) (h1 : k2 ≤ rm.cells) (h2 : n2 ≤ rm.slots) (kk : KW C b (pc + 3) lv (.ref q :: st) m2 (va_up sh q (ci, 0)) (clr hr q) k2 n2) : KW C b pc lv st m sh hr k n := by
  subst hq; subst hm; subst hk; subst hn
  exact c_new hC hd hcl hin hini hc hb9 hwf hok hg h1 h2 kk
theorem c_newIE {N : Nat} {x : Int32} (hq : b + m = q) (hm : m + 1 = m2) (hk : k + 1 = k2) (hn : n + N = n2) (hC : xOk C cc own nL rm rt) (hd : decode cc pc = .ok (.newarray .int, 2)) (ha : Cond.arrayClass .int ∈ BIG) (hx0 : ¬ x < 0) (hN : x.toNatClampNeg = N) (hN2 : N ≤ 10000) (hb9 : q < 900) (hwf : WFr hr q) (hok : okL q (lv.map Prod.snd ++ st)) (hg : xGr C q) (h1 : k2 ≤ rm.cells) (h2 : n2 ≤ rm.slots) (kk : KW C b (pc + 2) lv (.ref q :: st) m2 (va_up sh q (20, N)) (clr hr q) k2 n2) : KW C b pc lv (.int x :: st) m sh hr k n := by
  subst hq; subst hm; subst hk; subst hn
  exact c_newI hC hd ha hx0 hN hN2 hb9 hwf hok hg h1 h2 kk
theorem c_newZE {N : Nat} {x : Int32} (hq : b + m = q) (hm : m + 1 = m2) (hk : k + 1 = k2) (hn : n + N = n2) (hC : xOk C cc own nL rm rt) (hd : decode cc pc = .ok (.newarray .boolean, 2)) (ha : Cond.arrayClass .boolean ∈ BIG) (hx0 : ¬ x < 0) (hN : x.toNatClampNeg = N) (hN2 : N ≤ 10000) (hb9 : q < 900) (hwf : WFr hr q) (hok : okL q (lv.map Prod.snd ++ st)) (hg : xGr C q) (h1 : k2 ≤ rm.cells) (h2 : n2 ≤ rm.slots) (kk : KW C b (pc + 2) lv (.ref q :: st) m2 (va_up sh q (21, N)) (clr hr q) k2 n2) : KW C b pc lv (.int x :: st) m sh hr k n := by
  subst hq; subst hm; subst hk; subst hn
  exact c_newZ hC hd ha hx0 hN hN2 hb9 hwf hok hg h1 h2 kk
theorem c_newRE {N : Nat} {x : Int32} (hq : b + m = q) (hm : m + 1 = m2) (hk : k + 1 = k2) (hn : n + N = n2) (hC : xOk C cc own nL rm rt) (hd : decode cc pc = .ok (.anewarray idx, 3)) (hcl : Cond.classLink own idx (RRf ci) ∈ BIG) (hc : ci = 1 ∨ ci = 2 ∨ ci = 3) (hx0 : ¬ x < 0) (hN : x.toNatClampNeg = N) (hN2 : N ≤ 10000) (hb9 : q < 900) (hwf : WFr hr q) (hok : okL q (lv.map Prod.snd ++ st)) (hg : xGr C q) (h1 : k2 ≤ rm.cells) (h2 : n2 ≤ rm.slots) (kk : KW C b (pc + 3) lv (.ref q :: st) m2 (va_up sh q (22 + ci, N)) (clr hr q) k2 n2) : KW C b pc lv (.int x :: st) m sh hr k n := by
  subst hq; subst hm; subst hk; subst hn
  exact c_newR hC hd hcl hc hx0 hN hN2 hb9 hwf hok hg h1 h2 kk
end XKE
theorem W0 {C : Cx} {b pc m m2 k k2 n n2 : Nat} {lv : List (Nat × Value)} {st : List Value} {sh : Nat → Nat × Nat} {hr : Nat → Nat → Option Nat} (hm : m = m2) (hk : k = k2) (hn : n = n2) (kk : KW C b pc lv st m2 sh hr k2 n2) : KW C b pc lv st m sh hr k n := by
  subst hm; subst hk; subst hn
  exact kk
theorem bp_40 : (Int8.ofInt 40).toInt32 = 40 := by decide
theorem bp_96 : (Int8.ofInt 96).toInt32 = 96 := by decide
theorem sp_512 : (Int16.ofInt 512).toInt32 = 512 := by decide
theorem cl_1_9 : Cond.classLink yX1_init.cls 9 (RRf 4) ∈ BIG := big_t2 15 (by decide +kernel) rfl
theorem cl_6_11 : Cond.classLink yX6_init.cls 11 (RRf 2) ∈ BIG := big_t1 115 (by decide +kernel) rfl
theorem cl_8_16 : Cond.classLink yX8_init.cls 16 (RRf 0) ∈ BIG := big_t1 35 (by decide +kernel) rfl
theorem cl_8_23 : Cond.classLink yX8_init.cls 23 (RRf 7) ∈ BIG := big_t1 66 (by decide +kernel) rfl
theorem cl_8_30 : Cond.classLink yX8_init.cls 30 (RRf 6) ∈ BIG := big_t1 109 (by decide +kernel) rfl
theorem cl_8_39 : Cond.classLink yX8_init.cls 39 (RRf 3) ∈ BIG := big_t1 183 (by decide +kernel) rfl
theorem cl_8_45 : Cond.classLink yX8_init.cls 45 (RRf 1) ∈ BIG := big_t1 185 (by decide +kernel) rfl
theorem cl_8_7 : Cond.classLink yX8_init.cls 7 (RRf 5) ∈ BIG := big_t1 20 (by decide +kernel) rfl
theorem ml_8_32 : Cond.methodLink yX8_init.cls 32 yX6_init ∈ BIG := big_t1 111 (by decide +kernel) rfl
theorem ml_8_51 : Cond.methodLink yX8_init.cls 51 yX3_init ∈ BIG := big_t1 188 (by decide +kernel) rfl
theorem ml_8_52 : Cond.methodLink yX8_init.cls 52 yX1_init ∈ BIG := big_t2 11 (by decide +kernel) rfl
theorem nl_1_11 : Cond.methodLinkNest yX1_init.cls 11 yX4_init "BoundFrames" ∈ lw_tbl.filter isNest := nst_t2 17 (by decide +kernel) rfl
theorem nl_6_21 : Cond.methodLinkNest yX6_init.cls 21 yX2_init "BoundFrames" ∈ lw_tbl.filter isNest := nst_t1 118 (by decide +kernel) rfl
theorem nl_8_18 : Cond.methodLinkNest yX8_init.cls 18 yX0_init "BoundFrames" ∈ lw_tbl.filter isNest := nst_t1 37 (by decide +kernel) rfl
theorem nl_8_25 : Cond.methodLinkNest yX8_init.cls 25 yX7_init "BoundFrames" ∈ lw_tbl.filter isNest := nst_t1 68 (by decide +kernel) rfl
theorem nl_8_9 : Cond.methodLinkNest yX8_init.cls 9 yX5_init "BoundFrames" ∈ lw_tbl.filter isNest := nst_t1 22 (by decide +kernel) rfl
theorem oi_0_1 : Cond.methodLink yX0_init.cls 1 objectInit ∈ BIG := big_t1 40 (by decide +kernel) rfl
theorem oi_1_3 : Cond.methodLink yX1_init.cls 3 objectInit ∈ BIG := big_t2 14 (by decide +kernel) rfl
theorem oi_2_3 : Cond.methodLink yX2_init.cls 3 objectInit ∈ BIG := big_t1 121 (by decide +kernel) rfl
theorem oi_3_3 : Cond.methodLink yX3_init.cls 3 objectInit ∈ BIG := big_t1 191 (by decide +kernel) rfl
theorem oi_4_3 : Cond.methodLink yX4_init.cls 3 objectInit ∈ BIG := big_t2 20 (by decide +kernel) rfl
theorem oi_5_3 : Cond.methodLink yX5_init.cls 3 objectInit ∈ BIG := big_t1 25 (by decide +kernel) rfl
theorem oi_6_3 : Cond.methodLink yX6_init.cls 3 objectInit ∈ BIG := big_t1 114 (by decide +kernel) rfl
theorem oi_7_1 : Cond.methodLink yX7_init.cls 1 objectInit ∈ BIG := big_t1 71 (by decide +kernel) rfl
theorem oi_8_1 : Cond.methodLink yX8_init.cls 1 objectInit ∈ BIG := big_t1 17 (by decide +kernel) rfl
theorem oi_9_1 : Cond.methodLink yX9_init.cls 1 objectInit ∈ BIG := big_t4 51 (by decide +kernel) rfl
theorem oi_m : Cond.instanceMethod objectInit ∈ BIG := big_t1 18 (by decide +kernel) rfl
theorem oi_c : Cond.code objectInit ⟨#[0xb1]⟩ 1 none ∈ BIG := big_t1 19 (by decide +kernel) rfl
theorem in_0 : Cond.instantiable (RRf 0) (NF 0) ∈ BIG := big_t1 36 (by decide +kernel) rfl
theorem ii_0 : Cond.initialized (RRf 0) ∈ BIG := big_t1 3 (by decide +kernel) rfl
theorem in_1 : Cond.instantiable (RRf 1) (NF 1) ∈ BIG := big_t2 10 (by decide +kernel) rfl
theorem ii_1 : Cond.initialized (RRf 1) ∈ BIG := big_t1 8 (by decide +kernel) rfl
theorem in_2 : Cond.instantiable (RRf 2) (NF 2) ∈ BIG := big_t1 117 (by decide +kernel) rfl
theorem ii_2 : Cond.initialized (RRf 2) ∈ BIG := big_t1 6 (by decide +kernel) rfl
theorem in_3 : Cond.instantiable (RRf 3) (NF 3) ∈ BIG := big_t1 187 (by decide +kernel) rfl
theorem ii_3 : Cond.initialized (RRf 3) ∈ BIG := big_t1 7 (by decide +kernel) rfl
theorem in_4 : Cond.instantiable (RRf 4) (NF 4) ∈ BIG := big_t2 16 (by decide +kernel) rfl
theorem ii_4 : Cond.initialized (RRf 4) ∈ BIG := big_t1 9 (by decide +kernel) rfl
theorem in_5 : Cond.instantiable (RRf 5) (NF 5) ∈ BIG := big_t1 21 (by decide +kernel) rfl
theorem ii_5 : Cond.initialized (RRf 5) ∈ BIG := big_t1 2 (by decide +kernel) rfl
theorem in_6 : Cond.instantiable (RRf 6) (NF 6) ∈ BIG := big_t1 110 (by decide +kernel) rfl
theorem ii_6 : Cond.initialized (RRf 6) ∈ BIG := big_t1 5 (by decide +kernel) rfl
theorem in_7 : Cond.instantiable (RRf 7) (NF 7) ∈ BIG := big_t1 67 (by decide +kernel) rfl
theorem ii_7 : Cond.initialized (RRf 7) ∈ BIG := big_t1 4 (by decide +kernel) rfl
theorem in_8 : Cond.instantiable (RRf 8) (NF 8) ∈ BIG := big_t1 13 (by decide +kernel) rfl
theorem ii_8 : Cond.initialized (RRf 8) ∈ BIG := big_t1 1 (by decide +kernel) rfl
theorem in_9 : Cond.instantiable (RRf 9) (NF 9) ∈ BIG := big_t4 47 (by decide +kernel) rfl
theorem ii_9 : Cond.initialized (RRf 9) ∈ BIG := big_t1 10 (by decide +kernel) rfl
theorem ar_i : Cond.arrayClass .int ∈ BIG := big_t1 34 (by decide +kernel) rfl
theorem ar_z : Cond.arrayClass .boolean ∈ BIG := big_t2 9 (by decide +kernel) rfl
theorem mj_X0_init : MI1 yX0_init cX0_init 1 0 := ⟨big_t1 38 (by decide +kernel) rfl, big_t1 3 (by decide +kernel) rfl, big_t1 39 (by decide +kernel) rfl, by decide +kernel, by decide +kernel, by decide +kernel, by decide +kernel⟩
theorem mj_X7_init : MI1 yX7_init cX7_init 1 0 := ⟨big_t1 69 (by decide +kernel) rfl, big_t1 4 (by decide +kernel) rfl, big_t1 70 (by decide +kernel) rfl, by decide +kernel, by decide +kernel, by decide +kernel, by decide +kernel⟩
theorem mj_X4_init : MI1 yX4_init cX4_init 1 0 := ⟨big_t2 18 (by decide +kernel) rfl, big_t1 9 (by decide +kernel) rfl, big_t2 19 (by decide +kernel) rfl, by decide +kernel, by decide +kernel, by decide +kernel, by decide +kernel⟩
theorem mj_X5_init : MI1 yX5_init cX5_init 1 0 := ⟨big_t1 23 (by decide +kernel) rfl, big_t1 2 (by decide +kernel) rfl, big_t1 24 (by decide +kernel) rfl, by decide +kernel, by decide +kernel, by decide +kernel, by decide +kernel⟩
theorem mj_X2_init : MI1 yX2_init cX2_init 1 0 := ⟨big_t1 119 (by decide +kernel) rfl, big_t1 6 (by decide +kernel) rfl, big_t1 120 (by decide +kernel) rfl, by decide +kernel, by decide +kernel, by decide +kernel, by decide +kernel⟩
theorem mj_X3_init : MI1 yX3_init cX3_init 2 1 := ⟨big_t1 189 (by decide +kernel) rfl, big_t1 7 (by decide +kernel) rfl, big_t1 190 (by decide +kernel) rfl, by decide +kernel, by decide +kernel, by decide +kernel, by decide +kernel⟩
theorem mj_X1_init : MI1 yX1_init cX1_init 2 1 := ⟨big_t2 12 (by decide +kernel) rfl, big_t1 8 (by decide +kernel) rfl, big_t2 13 (by decide +kernel) rfl, by decide +kernel, by decide +kernel, by decide +kernel, by decide +kernel⟩
theorem mj_X6_init : MI1 yX6_init cX6_init 3 1 := ⟨big_t1 112 (by decide +kernel) rfl, big_t1 5 (by decide +kernel) rfl, big_t1 113 (by decide +kernel) rfl, by decide +kernel, by decide +kernel, by decide +kernel, by decide +kernel⟩
theorem mj_X8_init : MI1 yX8_init cX8_init 2 0 := ⟨big_t1 15 (by decide +kernel) rfl, big_t1 1 (by decide +kernel) rfl, big_t1 16 (by decide +kernel) rfl, by decide +kernel, by decide +kernel, by decide +kernel, by decide +kernel⟩
theorem mj_X9_init : MI1 yX9_init cX9_init 1 0 := ⟨big_t4 49 (by decide +kernel) rfl, big_t1 10 (by decide +kernel) rfl, big_t4 50 (by decide +kernel) rfl, by decide +kernel, by decide +kernel, by decide +kernel, by decide +kernel⟩
theorem dX0_init_0 : decode cX0_init 0 = .ok (.aload_n 0, 1) := by decide +kernel
theorem dX0_init_1 : decode cX0_init 1 = .ok (.invokespecial 1, 3) := by decide +kernel
theorem dX0_init_4 : decode cX0_init 4 = .ok (.return_, 1) := by decide +kernel
abbrev rm_X0_init : Room := { frames := 1, cells := 0, slots := 0, locals := 12 }
set_option maxHeartbeats 4000000 in
set_option maxRecDepth 20000 in
theorem t_X0_init {m q0 : Nat} {sh : Nat → Nat × Nat} {hr : Nat → Nat → Option Nat} (hq0 : q0 < m) (hs0 : sh q0 = (0, 0)) (hm : m + 0 < 900) (hw0 : WFr hr m) : MT1 yX0_init cX0_init 1 rm_X0_init 0 0 [.ref q0] 0 m sh hr (fun sh1 hr1 => sh1 = sh ∧ hr1 = hr ∧ WFr hr1 m) := by
  refine MT1.of (by decide +kernel) (Nat.le_of_ble_eq_true rfl) rfl (fun C hC hI hE => ?_)
  have hw := hw0
  have hE : xEnd1 C m 0 (m + 0) 0 0 _ := (by rw [Nat.zero_add] at hE; exact hE)
  show KW C 0 0 [(0, .ref q0)] [] m sh hr 0 0
  refine x_aload_n hC dX0_init_0 (lm 0 rfl) ?_
  refine c_oinit hC dX0_init_1 oi_0_1 oi_m oi_c (Nat.le_of_ble_eq_true rfl) (Nat.le_of_ble_eq_true rfl) ?_
  exact c_vret hC hE dX0_init_4 ⟨rfl, rfl, hw⟩
theorem dX7_init_0 : decode cX7_init 0 = .ok (.aload_n 0, 1) := by decide +kernel
theorem dX7_init_1 : decode cX7_init 1 = .ok (.invokespecial 1, 3) := by decide +kernel
theorem dX7_init_4 : decode cX7_init 4 = .ok (.return_, 1) := by decide +kernel
abbrev rm_X7_init : Room := { frames := 1, cells := 0, slots := 0, locals := 12 }
set_option maxHeartbeats 4000000 in
set_option maxRecDepth 20000 in
theorem t_X7_init {m q0 : Nat} {sh : Nat → Nat × Nat} {hr : Nat → Nat → Option Nat} (hq0 : q0 < m) (hs0 : sh q0 = (7, 0)) (hm : m + 0 < 900) (hw0 : WFr hr m) : MT1 yX7_init cX7_init 1 rm_X7_init 0 0 [.ref q0] 0 m sh hr (fun sh1 hr1 => sh1 = sh ∧ hr1 = hr ∧ WFr hr1 m) := by
  refine MT1.of (by decide +kernel) (Nat.le_of_ble_eq_true rfl) rfl (fun C hC hI hE => ?_)
  have hw := hw0
  have hE : xEnd1 C m 0 (m + 0) 0 0 _ := (by rw [Nat.zero_add] at hE; exact hE)
  show KW C 0 0 [(0, .ref q0)] [] m sh hr 0 0
  refine x_aload_n hC dX7_init_0 (lm 0 rfl) ?_
  refine c_oinit hC dX7_init_1 oi_7_1 oi_m oi_c (Nat.le_of_ble_eq_true rfl) (Nat.le_of_ble_eq_true rfl) ?_
  exact c_vret hC hE dX7_init_4 ⟨rfl, rfl, hw⟩
theorem dX4_init_0 : decode cX4_init 0 = .ok (.aload_n 0, 1) := by decide +kernel
theorem dX4_init_1 : decode cX4_init 1 = .ok (.invokespecial 3, 3) := by decide +kernel
theorem dX4_init_4 : decode cX4_init 4 = .ok (.aload_n 0, 1) := by decide +kernel
theorem dX4_init_5 : decode cX4_init 5 = .ok (.bipush 10, 2) := by decide +kernel
theorem dX4_init_7 : decode cX4_init 7 = .ok (.newarray .int, 2) := by decide +kernel
theorem dX4_init_9 : decode cX4_init 9 = .ok (.putfield 11, 3) := by decide +kernel
theorem dX4_init_12 : decode cX4_init 12 = .ok (.return_, 1) := by decide +kernel
abbrev rm_X4_init : Room := { frames := 1, cells := 1, slots := 10, locals := 12 }
set_option maxHeartbeats 4000000 in
set_option maxRecDepth 20000 in
theorem t_X4_init {m q0 : Nat} {sh : Nat → Nat × Nat} {hr : Nat → Nat → Option Nat} (hq0 : q0 < m) (hs0 : sh q0 = (4, 0)) (hm : m + 1 < 900) (hw0 : WFr hr m) : MT1 yX4_init cX4_init 1 rm_X4_init 1 10 [.ref q0] 0 m sh hr (fun sh1 hr1 => sh1 = (va_up sh m (20, 10)) ∧ hr1 = (up2 (clr hr m) q0 0 (some m)) ∧ WFr hr1 (m + 1)) := by
  refine MT1.of (by decide +kernel) (Nat.le_of_ble_eq_true rfl) rfl (fun C hC hI hE => ?_)
  have hw := hw0
  have hE : xEnd1 C m 0 (m + 1) 1 10 _ := (by rw [Nat.zero_add] at hE; exact hE)
  show KW C 0 0 [(0, .ref q0)] [] m sh hr 0 0
  refine x_aload_n hC dX4_init_0 (lm 0 rfl) ?_
  refine c_oinit hC dX4_init_1 oi_4_3 oi_m oi_c (Nat.le_of_ble_eq_true rfl) (Nat.le_of_ble_eq_true rfl) ?_
  refine x_aload_n hC dX4_init_4 (lm 0 rfl) ?_
  refine x_bipush hC dX4_init_5 bp_10 ?_
  refine c_newIE (N := 10) (m2 := m + 1) (q := m) (k2 := 1) (n2 := 10) (Nat.zero_add _) rfl rfl rfl hC dX4_init_7 ar_i (by decide) (by decide) (by decide) (by omega) hw (ok_r (by omega) (ok_r (by omega) ok_nil)) (hE.gr (by omega)) (Nat.le_of_ble_eq_true rfl) (Nat.le_of_ble_eq_true rfl) ?_
  have hw : WFr _ (m + 1) := hw.clr (q := m)
  refine c_putF (q := q0) (r := m) hC hI dX4_init_9 fk_4_11 rfl rfl (fun _ => rfl) (fun _ => rfl) ⟨⟨Nat.zero_le _, by show _ < 0 + _; omega⟩, by rw [vu (by omega), hs0]⟩ ?_
  have hw := hw.put (q := q0) (j := 0) (show m < (m + 1) from (by omega))
  exact c_vret hC hE dX4_init_12 ⟨rfl, rfl, hw⟩
theorem dX5_init_0 : decode cX5_init 0 = .ok (.aload_n 0, 1) := by decide +kernel
theorem dX5_init_1 : decode cX5_init 1 = .ok (.invokespecial 3, 3) := by decide +kernel
theorem dX5_init_4 : decode cX5_init 4 = .ok (.aload_n 0, 1) := by decide +kernel
theorem dX5_init_5 : decode cX5_init 5 = .ok (.bipush 9, 2) := by decide +kernel
theorem dX5_init_7 : decode cX5_init 7 = .ok (.newarray .int, 2) := by decide +kernel
theorem dX5_init_9 : decode cX5_init 9 = .ok (.putfield 11, 3) := by decide +kernel
theorem dX5_init_12 : decode cX5_init 12 = .ok (.return_, 1) := by decide +kernel
abbrev rm_X5_init : Room := { frames := 1, cells := 1, slots := 9, locals := 12 }
set_option maxHeartbeats 4000000 in
set_option maxRecDepth 20000 in
theorem t_X5_init {m q0 : Nat} {sh : Nat → Nat × Nat} {hr : Nat → Nat → Option Nat} (hq0 : q0 < m) (hs0 : sh q0 = (5, 0)) (hm : m + 1 < 900) (hw0 : WFr hr m) : MT1 yX5_init cX5_init 1 rm_X5_init 1 9 [.ref q0] 0 m sh hr (fun sh1 hr1 => sh1 = (va_up sh m (20, 9)) ∧ hr1 = (up2 (clr hr m) q0 0 (some m)) ∧ WFr hr1 (m + 1)) := by
  refine MT1.of (by decide +kernel) (Nat.le_of_ble_eq_true rfl) rfl (fun C hC hI hE => ?_)
  have hw := hw0
  have hE : xEnd1 C m 0 (m + 1) 1 9 _ := (by rw [Nat.zero_add] at hE; exact hE)
  show KW C 0 0 [(0, .ref q0)] [] m sh hr 0 0
  refine x_aload_n hC dX5_init_0 (lm 0 rfl) ?_
  refine c_oinit hC dX5_init_1 oi_5_3 oi_m oi_c (Nat.le_of_ble_eq_true rfl) (Nat.le_of_ble_eq_true rfl) ?_
  refine x_aload_n hC dX5_init_4 (lm 0 rfl) ?_
  refine x_bipush hC dX5_init_5 bp_9 ?_
  refine c_newIE (N := 9) (m2 := m + 1) (q := m) (k2 := 1) (n2 := 9) (Nat.zero_add _) rfl rfl rfl hC dX5_init_7 ar_i (by decide) (by decide) (by decide) (by omega) hw (ok_r (by omega) (ok_r (by omega) ok_nil)) (hE.gr (by omega)) (Nat.le_of_ble_eq_true rfl) (Nat.le_of_ble_eq_true rfl) ?_
  have hw : WFr _ (m + 1) := hw.clr (q := m)
  refine c_putF (q := q0) (r := m) hC hI dX5_init_9 fk_5_11 rfl rfl (fun _ => rfl) (fun _ => rfl) ⟨⟨Nat.zero_le _, by show _ < 0 + _; omega⟩, by rw [vu (by omega), hs0]⟩ ?_
  have hw := hw.put (q := q0) (j := 0) (show m < (m + 1) from (by omega))
  exact c_vret hC hE dX5_init_12 ⟨rfl, rfl, hw⟩
theorem dX2_init_0 : decode cX2_init 0 = .ok (.aload_n 0, 1) := by decide +kernel
theorem dX2_init_1 : decode cX2_init 1 = .ok (.invokespecial 3, 3) := by decide +kernel
theorem dX2_init_4 : decode cX2_init 4 = .ok (.aload_n 0, 1) := by decide +kernel
theorem dX2_init_5 : decode cX2_init 5 = .ok (.bipush 8, 2) := by decide +kernel
theorem dX2_init_7 : decode cX2_init 7 = .ok (.newarray .int, 2) := by decide +kernel
theorem dX2_init_9 : decode cX2_init 9 = .ok (.putfield 11, 3) := by decide +kernel
theorem dX2_init_12 : decode cX2_init 12 = .ok (.aload_n 0, 1) := by decide +kernel
theorem dX2_init_13 : decode cX2_init 13 = .ok (.bipush 8, 2) := by decide +kernel
theorem dX2_init_15 : decode cX2_init 15 = .ok (.newarray .int, 2) := by decide +kernel
theorem dX2_init_17 : decode cX2_init 17 = .ok (.putfield 15, 3) := by decide +kernel
theorem dX2_init_20 : decode cX2_init 20 = .ok (.aload_n 0, 1) := by decide +kernel
theorem dX2_init_21 : decode cX2_init 21 = .ok (.bipush 8, 2) := by decide +kernel
theorem dX2_init_23 : decode cX2_init 23 = .ok (.newarray .int, 2) := by decide +kernel
theorem dX2_init_25 : decode cX2_init 25 = .ok (.putfield 18, 3) := by decide +kernel
theorem dX2_init_28 : decode cX2_init 28 = .ok (.aload_n 0, 1) := by decide +kernel
theorem dX2_init_29 : decode cX2_init 29 = .ok (.bipush 8, 2) := by decide +kernel
theorem dX2_init_31 : decode cX2_init 31 = .ok (.newarray .int, 2) := by decide +kernel
theorem dX2_init_33 : decode cX2_init 33 = .ok (.putfield 21, 3) := by decide +kernel
theorem dX2_init_36 : decode cX2_init 36 = .ok (.return_, 1) := by decide +kernel
abbrev rm_X2_init : Room := { frames := 1, cells := 4, slots := 32, locals := 12 }
set_option maxHeartbeats 4000000 in
set_option maxRecDepth 20000 in
theorem t_X2_init {m q0 : Nat} {sh : Nat → Nat × Nat} {hr : Nat → Nat → Option Nat} (hq0 : q0 < m) (hs0 : sh q0 = (2, 0)) (hm : m + 4 < 900) (hw0 : WFr hr m) : MT1 yX2_init cX2_init 1 rm_X2_init 4 32 [.ref q0] 0 m sh hr (fun sh1 hr1 => sh1 = (va_up (va_up (va_up (va_up sh m (20, 8)) (m + 1) (20, 8)) (m + 2) (20, 8)) (m + 3) (20, 8)) ∧ hr1 = (up2 (clr (up2 (clr (up2 (clr (up2 (clr hr m) q0 8 (some m)) (m + 1)) q0 9 (some (m + 1))) (m + 2)) q0 10 (some (m + 2))) (m + 3)) q0 11 (some (m + 3))) ∧ WFr hr1 (m + 4)) := by
  refine MT1.of (by decide +kernel) (Nat.le_of_ble_eq_true rfl) rfl (fun C hC hI hE => ?_)
  have hw := hw0
  have hE : xEnd1 C m 0 (m + 4) 4 32 _ := (by rw [Nat.zero_add] at hE; exact hE)
  show KW C 0 0 [(0, .ref q0)] [] m sh hr 0 0
  refine x_aload_n hC dX2_init_0 (lm 0 rfl) ?_
  refine c_oinit hC dX2_init_1 oi_2_3 oi_m oi_c (Nat.le_of_ble_eq_true rfl) (Nat.le_of_ble_eq_true rfl) ?_
  refine x_aload_n hC dX2_init_4 (lm 0 rfl) ?_
  refine x_bipush hC dX2_init_5 bp_8 ?_
  refine c_newIE (N := 8) (m2 := m + 1) (q := m) (k2 := 1) (n2 := 8) (Nat.zero_add _) rfl rfl rfl hC dX2_init_7 ar_i (by decide) (by decide) (by decide) (by omega) hw (ok_r (by omega) (ok_r (by omega) ok_nil)) (hE.gr (by omega)) (Nat.le_of_ble_eq_true rfl) (Nat.le_of_ble_eq_true rfl) ?_
  have hw : WFr _ (m + 1) := hw.clr (q := m)
  refine c_putF (q := q0) (r := m) hC hI dX2_init_9 fk_2_11 rfl rfl (fun _ => rfl) (fun _ => rfl) ⟨⟨Nat.zero_le _, by show _ < 0 + _; omega⟩, by rw [vu (by omega), hs0]⟩ ?_
  have hw := hw.put (q := q0) (j := 8) (show m < (m + 1) from (by omega))
  refine x_aload_n hC dX2_init_12 (lm 0 rfl) ?_
  refine x_bipush hC dX2_init_13 bp_8 ?_
  refine c_newIE (N := 8) (m2 := m + 2) (q := m + 1) (k2 := 2) (n2 := 16) (Nat.zero_add _) rfl rfl rfl hC dX2_init_15 ar_i (by decide) (by decide) (by decide) (by omega) hw (ok_r (by omega) (ok_r (by omega) ok_nil)) (hE.gr (by omega)) (Nat.le_of_ble_eq_true rfl) (Nat.le_of_ble_eq_true rfl) ?_
  have hw : WFr _ (m + 2) := hw.clr (q := m + 1)
  refine c_putF (q := q0) (r := m + 1) hC hI dX2_init_17 fk_2_15 rfl rfl (fun _ => rfl) (fun _ => rfl) ⟨⟨Nat.zero_le _, by show _ < 0 + _; omega⟩, by rw [vu (by omega), vu (by omega), hs0]⟩ ?_
  have hw := hw.put (q := q0) (j := 9) (show m + 1 < (m + 2) from (by omega))
  refine x_aload_n hC dX2_init_20 (lm 0 rfl) ?_
  refine x_bipush hC dX2_init_21 bp_8 ?_
  refine c_newIE (N := 8) (m2 := m + 3) (q := m + 2) (k2 := 3) (n2 := 24) (Nat.zero_add _) rfl rfl rfl hC dX2_init_23 ar_i (by decide) (by decide) (by decide) (by omega) hw (ok_r (by omega) (ok_r (by omega) ok_nil)) (hE.gr (by omega)) (Nat.le_of_ble_eq_true rfl) (Nat.le_of_ble_eq_true rfl) ?_
  have hw : WFr _ (m + 3) := hw.clr (q := m + 2)
  refine c_putF (q := q0) (r := m + 2) hC hI dX2_init_25 fk_2_18 rfl rfl (fun _ => rfl) (fun _ => rfl) ⟨⟨Nat.zero_le _, by show _ < 0 + _; omega⟩, by rw [vu (by omega), vu (by omega), vu (by omega), hs0]⟩ ?_
  have hw := hw.put (q := q0) (j := 10) (show m + 2 < (m + 3) from (by omega))
  refine x_aload_n hC dX2_init_28 (lm 0 rfl) ?_
  refine x_bipush hC dX2_init_29 bp_8 ?_
  refine c_newIE (N := 8) (m2 := m + 4) (q := m + 3) (k2 := 4) (n2 := 32) (Nat.zero_add _) rfl rfl rfl hC dX2_init_31 ar_i (by decide) (by decide) (by decide) (by omega) hw (ok_r (by omega) (ok_r (by omega) ok_nil)) (hE.gr (by omega)) (Nat.le_of_ble_eq_true rfl) (Nat.le_of_ble_eq_true rfl) ?_
  have hw : WFr _ (m + 4) := hw.clr (q := m + 3)
  refine c_putF (q := q0) (r := m + 3) hC hI dX2_init_33 fk_2_21 rfl rfl (fun _ => rfl) (fun _ => rfl) ⟨⟨Nat.zero_le _, by show _ < 0 + _; omega⟩, by rw [vu (by omega), vu (by omega), vu (by omega), vu (by omega), hs0]⟩ ?_
  have hw := hw.put (q := q0) (j := 11) (show m + 3 < (m + 4) from (by omega))
  exact c_vret hC hE dX2_init_36 ⟨rfl, rfl, hw⟩
theorem dX3_init_0 : decode cX3_init 0 = .ok (.aload_n 0, 1) := by decide +kernel
theorem dX3_init_1 : decode cX3_init 1 = .ok (.invokespecial 3, 3) := by decide +kernel
theorem dX3_init_4 : decode cX3_init 4 = .ok (.aload_n 0, 1) := by decide +kernel
theorem dX3_init_5 : decode cX3_init 5 = .ok (.bipush 24, 2) := by decide +kernel
theorem dX3_init_7 : decode cX3_init 7 = .ok (.newarray .int, 2) := by decide +kernel
theorem dX3_init_9 : decode cX3_init 9 = .ok (.putfield 11, 3) := by decide +kernel
theorem dX3_init_12 : decode cX3_init 12 = .ok (.aload_n 0, 1) := by decide +kernel
theorem dX3_init_13 : decode cX3_init 13 = .ok (.bipush 24, 2) := by decide +kernel
theorem dX3_init_15 : decode cX3_init 15 = .ok (.newarray .int, 2) := by decide +kernel
theorem dX3_init_17 : decode cX3_init 17 = .ok (.putfield 15, 3) := by decide +kernel
theorem dX3_init_20 : decode cX3_init 20 = .ok (.aload_n 0, 1) := by decide +kernel
theorem dX3_init_21 : decode cX3_init 21 = .ok (.bipush 16, 2) := by decide +kernel
theorem dX3_init_23 : decode cX3_init 23 = .ok (.newarray .int, 2) := by decide +kernel
theorem dX3_init_25 : decode cX3_init 25 = .ok (.putfield 18, 3) := by decide +kernel
theorem dX3_init_28 : decode cX3_init 28 = .ok (.aload_n 0, 1) := by decide +kernel
theorem dX3_init_29 : decode cX3_init 29 = .ok (.bipush 16, 2) := by decide +kernel
theorem dX3_init_31 : decode cX3_init 31 = .ok (.newarray .int, 2) := by decide +kernel
theorem dX3_init_33 : decode cX3_init 33 = .ok (.putfield 21, 3) := by decide +kernel
theorem dX3_init_36 : decode cX3_init 36 = .ok (.aload_n 0, 1) := by decide +kernel
theorem dX3_init_37 : decode cX3_init 37 = .ok (.bipush 16, 2) := by decide +kernel
theorem dX3_init_39 : decode cX3_init 39 = .ok (.newarray .int, 2) := by decide +kernel
theorem dX3_init_41 : decode cX3_init 41 = .ok (.putfield 24, 3) := by decide +kernel
theorem dX3_init_44 : decode cX3_init 44 = .ok (.aload_n 0, 1) := by decide +kernel
theorem dX3_init_45 : decode cX3_init 45 = .ok (.bipush 16, 2) := by decide +kernel
theorem dX3_init_47 : decode cX3_init 47 = .ok (.newarray .boolean, 2) := by decide +kernel
theorem dX3_init_49 : decode cX3_init 49 = .ok (.putfield 27, 3) := by decide +kernel
theorem dX3_init_52 : decode cX3_init 52 = .ok (.aload_n 0, 1) := by decide +kernel
theorem dX3_init_53 : decode cX3_init 53 = .ok (.aload_n 1, 1) := by decide +kernel
theorem dX3_init_54 : decode cX3_init 54 = .ok (.putfield 31, 3) := by decide +kernel
theorem dX3_init_57 : decode cX3_init 57 = .ok (.return_, 1) := by decide +kernel
abbrev rm_X3_init : Room := { frames := 1, cells := 6, slots := 112, locals := 12 }
set_option maxHeartbeats 4000000 in
set_option maxRecDepth 20000 in
theorem t_X3_init {m q0 qT : Nat} {sh : Nat → Nat × Nat} {hr : Nat → Nat → Option Nat} (hq0 : q0 < m) (hs0 : sh q0 = (3, 0)) (hqT : qT < m) (hm : m + 6 < 900) (hw0 : WFr hr m) : MT1 yX3_init cX3_init 2 rm_X3_init 6 112 [.ref q0, .ref qT] 0 m sh hr (fun sh1 hr1 => sh1 = (va_up (va_up (va_up (va_up (va_up (va_up sh m (20, 24)) (m + 1) (20, 24)) (m + 2) (20, 16)) (m + 3) (20, 16)) (m + 4) (20, 16)) (m + 5) (21, 16)) ∧ hr1 = (up2 (up2 (clr (up2 (clr (up2 (clr (up2 (clr (up2 (clr (up2 (clr hr m) q0 11 (some m)) (m + 1)) q0 12 (some (m + 1))) (m + 2)) q0 13 (some (m + 2))) (m + 3)) q0 14 (some (m + 3))) (m + 4)) q0 15 (some (m + 4))) (m + 5)) q0 16 (some (m + 5))) q0 0 (some qT)) ∧ WFr hr1 (m + 6)) := by
  refine MT1.of (by decide +kernel) (Nat.le_of_ble_eq_true rfl) rfl (fun C hC hI hE => ?_)
  have hw := hw0
  have hE : xEnd1 C m 0 (m + 6) 6 112 _ := (by rw [Nat.zero_add] at hE; exact hE)
  show KW C 0 0 [(0, .ref q0), (1, .ref qT)] [] m sh hr 0 0
  refine x_aload_n hC dX3_init_0 (lm 0 rfl) ?_
  refine c_oinit hC dX3_init_1 oi_3_3 oi_m oi_c (Nat.le_of_ble_eq_true rfl) (Nat.le_of_ble_eq_true rfl) ?_
  refine x_aload_n hC dX3_init_4 (lm 0 rfl) ?_
  refine x_bipush hC dX3_init_5 bp_24 ?_
  refine c_newIE (N := 24) (m2 := m + 1) (q := m) (k2 := 1) (n2 := 24) (Nat.zero_add _) rfl rfl rfl hC dX3_init_7 ar_i (by decide) (by decide) (by decide) (by omega) hw (ok_r (by omega) (ok_r (by omega) (ok_r (by omega) ok_nil))) (hE.gr (by omega)) (Nat.le_of_ble_eq_true rfl) (Nat.le_of_ble_eq_true rfl) ?_
  have hw : WFr _ (m + 1) := hw.clr (q := m)
  refine c_putF (q := q0) (r := m) hC hI dX3_init_9 fk_3_11 rfl rfl (fun _ => rfl) (fun _ => rfl) ⟨⟨Nat.zero_le _, by show _ < 0 + _; omega⟩, by rw [vu (by omega), hs0]⟩ ?_
  have hw := hw.put (q := q0) (j := 11) (show m < (m + 1) from (by omega))
  refine x_aload_n hC dX3_init_12 (lm 0 rfl) ?_
  refine x_bipush hC dX3_init_13 bp_24 ?_
  refine c_newIE (N := 24) (m2 := m + 2) (q := m + 1) (k2 := 2) (n2 := 48) (Nat.zero_add _) rfl rfl rfl hC dX3_init_15 ar_i (by decide) (by decide) (by decide) (by omega) hw (ok_r (by omega) (ok_r (by omega) (ok_r (by omega) ok_nil))) (hE.gr (by omega)) (Nat.le_of_ble_eq_true rfl) (Nat.le_of_ble_eq_true rfl) ?_
  have hw : WFr _ (m + 2) := hw.clr (q := m + 1)
  refine c_putF (q := q0) (r := m + 1) hC hI dX3_init_17 fk_3_15 rfl rfl (fun _ => rfl) (fun _ => rfl) ⟨⟨Nat.zero_le _, by show _ < 0 + _; omega⟩, by rw [vu (by omega), vu (by omega), hs0]⟩ ?_
  have hw := hw.put (q := q0) (j := 12) (show m + 1 < (m + 2) from (by omega))
  refine x_aload_n hC dX3_init_20 (lm 0 rfl) ?_
  refine x_bipush hC dX3_init_21 bp_16 ?_
  refine c_newIE (N := 16) (m2 := m + 3) (q := m + 2) (k2 := 3) (n2 := 64) (Nat.zero_add _) rfl rfl rfl hC dX3_init_23 ar_i (by decide) (by decide) (by decide) (by omega) hw (ok_r (by omega) (ok_r (by omega) (ok_r (by omega) ok_nil))) (hE.gr (by omega)) (Nat.le_of_ble_eq_true rfl) (Nat.le_of_ble_eq_true rfl) ?_
  have hw : WFr _ (m + 3) := hw.clr (q := m + 2)
  refine c_putF (q := q0) (r := m + 2) hC hI dX3_init_25 fk_3_18 rfl rfl (fun _ => rfl) (fun _ => rfl) ⟨⟨Nat.zero_le _, by show _ < 0 + _; omega⟩, by rw [vu (by omega), vu (by omega), vu (by omega), hs0]⟩ ?_
  have hw := hw.put (q := q0) (j := 13) (show m + 2 < (m + 3) from (by omega))
  refine x_aload_n hC dX3_init_28 (lm 0 rfl) ?_
  refine x_bipush hC dX3_init_29 bp_16 ?_
  refine c_newIE (N := 16) (m2 := m + 4) (q := m + 3) (k2 := 4) (n2 := 80) (Nat.zero_add _) rfl rfl rfl hC dX3_init_31 ar_i (by decide) (by decide) (by decide) (by omega) hw (ok_r (by omega) (ok_r (by omega) (ok_r (by omega) ok_nil))) (hE.gr (by omega)) (Nat.le_of_ble_eq_true rfl) (Nat.le_of_ble_eq_true rfl) ?_
  have hw : WFr _ (m + 4) := hw.clr (q := m + 3)
  refine c_putF (q := q0) (r := m + 3) hC hI dX3_init_33 fk_3_21 rfl rfl (fun _ => rfl) (fun _ => rfl) ⟨⟨Nat.zero_le _, by show _ < 0 + _; omega⟩, by rw [vu (by omega), vu (by omega), vu (by omega), vu (by omega), hs0]⟩ ?_
  have hw := hw.put (q := q0) (j := 14) (show m + 3 < (m + 4) from (by omega))
  refine x_aload_n hC dX3_init_36 (lm 0 rfl) ?_
  refine x_bipush hC dX3_init_37 bp_16 ?_
  refine c_newIE (N := 16) (m2 := m + 5) (q := m + 4) (k2 := 5) (n2 := 96) (Nat.zero_add _) rfl rfl rfl hC dX3_init_39 ar_i (by decide) (by decide) (by decide) (by omega) hw (ok_r (by omega) (ok_r (by omega) (ok_r (by omega) ok_nil))) (hE.gr (by omega)) (Nat.le_of_ble_eq_true rfl) (Nat.le_of_ble_eq_true rfl) ?_
  have hw : WFr _ (m + 5) := hw.clr (q := m + 4)
  refine c_putF (q := q0) (r := m + 4) hC hI dX3_init_41 fk_3_24 rfl rfl (fun _ => rfl) (fun _ => rfl) ⟨⟨Nat.zero_le _, by show _ < 0 + _; omega⟩, by rw [vu (by omega), vu (by omega), vu (by omega), vu (by omega), vu (by omega), hs0]⟩ ?_
  have hw := hw.put (q := q0) (j := 15) (show m + 4 < (m + 5) from (by omega))
  refine x_aload_n hC dX3_init_44 (lm 0 rfl) ?_
  refine x_bipush hC dX3_init_45 bp_16 ?_
  refine c_newZE (N := 16) (m2 := m + 6) (q := m + 5) (k2 := 6) (n2 := 112) (Nat.zero_add _) rfl rfl rfl hC dX3_init_47 ar_z (by decide) (by decide) (by decide) (by omega) hw (ok_r (by omega) (ok_r (by omega) (ok_r (by omega) ok_nil))) (hE.gr (by omega)) (Nat.le_of_ble_eq_true rfl) (Nat.le_of_ble_eq_true rfl) ?_
  have hw : WFr _ (m + 6) := hw.clr (q := m + 5)
  refine c_putF (q := q0) (r := m + 5) hC hI dX3_init_49 fk_3_27 rfl rfl (fun _ => rfl) (fun _ => rfl) ⟨⟨Nat.zero_le _, by show _ < 0 + _; omega⟩, by rw [vu (by omega), vu (by omega), vu (by omega), vu (by omega), vu (by omega), vu (by omega), hs0]⟩ ?_
  have hw := hw.put (q := q0) (j := 16) (show m + 5 < (m + 6) from (by omega))
  refine x_aload_n hC dX3_init_52 (lm 0 rfl) ?_
  refine x_aload_n hC dX3_init_53 (lm 1 rfl) ?_
  refine c_putF (q := q0) (r := qT) hC hI dX3_init_54 fk_3_31 rfl rfl (fun _ => rfl) (fun _ => rfl) ⟨⟨Nat.zero_le _, by show _ < 0 + _; omega⟩, by rw [vu (by omega), vu (by omega), vu (by omega), vu (by omega), vu (by omega), vu (by omega), hs0]⟩ ?_
  have hw := hw.put (q := q0) (j := 0) (show qT < (m + 6) from (by omega))
  exact c_vret hC hE dX3_init_57 ⟨rfl, rfl, hw⟩
theorem dX1_init_0 : decode cX1_init 0 = .ok (.aload_n 0, 1) := by decide +kernel
theorem dX1_init_1 : decode cX1_init 1 = .ok (.invokespecial 3, 3) := by decide +kernel
theorem dX1_init_4 : decode cX1_init 4 = .ok (.aload_n 0, 1) := by decide +kernel
theorem dX1_init_5 : decode cX1_init 5 = .ok (.new 9, 3) := by decide +kernel
theorem dX1_init_8 : decode cX1_init 8 = .ok (.dup, 1) := by decide +kernel
theorem dX1_init_9 : decode cX1_init 9 = .ok (.invokespecial 11, 3) := by decide +kernel
theorem dX1_init_12 : decode cX1_init 12 = .ok (.putfield 12, 3) := by decide +kernel
theorem dX1_init_15 : decode cX1_init 15 = .ok (.aload_n 0, 1) := by decide +kernel
theorem dX1_init_16 : decode cX1_init 16 = .ok (.bipush 16, 2) := by decide +kernel
theorem dX1_init_18 : decode cX1_init 18 = .ok (.newarray .int, 2) := by decide +kernel
theorem dX1_init_20 : decode cX1_init 20 = .ok (.putfield 18, 3) := by decide +kernel
theorem dX1_init_23 : decode cX1_init 23 = .ok (.aload_n 0, 1) := by decide +kernel
theorem dX1_init_24 : decode cX1_init 24 = .ok (.aload_n 1, 1) := by decide +kernel
theorem dX1_init_25 : decode cX1_init 25 = .ok (.putfield 22, 3) := by decide +kernel
theorem dX1_init_28 : decode cX1_init 28 = .ok (.return_, 1) := by decide +kernel
abbrev rm_X1_init : Room := { frames := 2, cells := 3, slots := 28, locals := 32 }
set_option maxHeartbeats 4000000 in
set_option maxRecDepth 20000 in
theorem t_X1_init {m q0 qT : Nat} {sh : Nat → Nat × Nat} {hr : Nat → Nat → Option Nat} (hq0 : q0 < m) (hs0 : sh q0 = (1, 0)) (hqT : qT < m) (hm : m + 3 < 900) (hw0 : WFr hr m) : MT1 yX1_init cX1_init 2 rm_X1_init 3 28 [.ref q0, .ref qT] 0 m sh hr (fun sh1 hr1 => sh1 = (va_up (va_up (va_up sh m (4, 0)) (m + 1) (20, 10)) (m + 2) (20, 16)) ∧ hr1 = (up2 (up2 (clr (up2 (up2 (clr (clr hr m) (m + 1)) m 0 (some (m + 1))) q0 1 (some m)) (m + 2)) q0 11 (some (m + 2))) q0 0 (some qT)) ∧ WFr hr1 (m + 3)) := by
  refine MT1.of (by decide +kernel) (Nat.le_of_ble_eq_true rfl) rfl (fun C hC hI hE => ?_)
  have hw := hw0
  have hE : xEnd1 C m 0 (m + 3) 3 28 _ := (by rw [Nat.zero_add] at hE; exact hE)
  show KW C 0 0 [(0, .ref q0), (1, .ref qT)] [] m sh hr 0 0
  refine x_aload_n hC dX1_init_0 (lm 0 rfl) ?_
  refine c_oinit hC dX1_init_1 oi_1_3 oi_m oi_c (Nat.le_of_ble_eq_true rfl) (Nat.le_of_ble_eq_true rfl) ?_
  refine x_aload_n hC dX1_init_4 (lm 0 rfl) ?_
  refine c_newE (m2 := m + 1) (q := m) (k2 := 1) (n2 := 2) (ci := 4) (Nat.zero_add _) rfl rfl rfl hC dX1_init_5 cl_1_9 in_4 ii_4 (by decide) (by omega) hw (ok_r (by omega) (ok_r (by omega) (ok_r (by omega) ok_nil))) (hE.gr (by omega)) (Nat.le_of_ble_eq_true rfl) (Nat.le_of_ble_eq_true rfl) ?_
  have hw : WFr _ (m + 1) := hw.clr (q := m)
  refine x_dup hC dX1_init_8 rfl ?_
  refine c_callIN (mc := 1) (ms := 10) (avs := []) (st := [.ref m, .ref q0]) hC dX1_init_9 nl_1_11 mj_X4_init rfl (t_X4_init (m := m + 1) (q0 := m) (by omega) (by simp [va_up]) (by omega) hw) (ok_r (by omega) (ok_r (by omega) (ok_r (by omega) (ok_r (by omega) ok_nil)))) (hE.gr (by omega)) (Nat.le_of_ble_eq_true rfl) ⟨rfl, rfl⟩ ⟨Nat.le_of_ble_eq_true rfl, Nat.le_of_ble_eq_true rfl⟩ ⟨Nat.le_of_ble_eq_true rfl, Nat.le_of_ble_eq_true rfl⟩ (fun sh1 hr1 hp => ?_)
  obtain ⟨rfl, rfl, hw⟩ := hp
  refine W0 (m2 := m + 2) (k2 := 2) (n2 := 12) rfl rfl rfl ?_
  have hw : WFr _ (m + 2) := hw
  refine c_putF (q := q0) (r := m) hC hI dX1_init_12 fk_1_12 rfl rfl (fun _ => rfl) (fun _ => rfl) ⟨⟨Nat.zero_le _, by show _ < 0 + _; omega⟩, by rw [vu (by omega), vu (by omega), hs0]⟩ ?_
  have hw := hw.put (q := q0) (j := 1) (show m < (m + 2) from (by omega))
  refine x_aload_n hC dX1_init_15 (lm 0 rfl) ?_
  refine x_bipush hC dX1_init_16 bp_16 ?_
  refine c_newIE (N := 16) (m2 := m + 3) (q := m + 2) (k2 := 3) (n2 := 28) (Nat.zero_add _) rfl rfl rfl hC dX1_init_18 ar_i (by decide) (by decide) (by decide) (by omega) hw (ok_r (by omega) (ok_r (by omega) (ok_r (by omega) ok_nil))) (hE.gr (by omega)) (Nat.le_of_ble_eq_true rfl) (Nat.le_of_ble_eq_true rfl) ?_
  have hw : WFr _ (m + 3) := hw.clr (q := m + 2)
  refine c_putF (q := q0) (r := m + 2) hC hI dX1_init_20 fk_1_18 rfl rfl (fun _ => rfl) (fun _ => rfl) ⟨⟨Nat.zero_le _, by show _ < 0 + _; omega⟩, by rw [vu (by omega), vu (by omega), vu (by omega), hs0]⟩ ?_
  have hw := hw.put (q := q0) (j := 11) (show m + 2 < (m + 3) from (by omega))
  refine x_aload_n hC dX1_init_23 (lm 0 rfl) ?_
  refine x_aload_n hC dX1_init_24 (lm 1 rfl) ?_
  refine c_putF (q := q0) (r := qT) hC hI dX1_init_25 fk_1_22 rfl rfl (fun _ => rfl) (fun _ => rfl) ⟨⟨Nat.zero_le _, by show _ < 0 + _; omega⟩, by rw [vu (by omega), vu (by omega), vu (by omega), hs0]⟩ ?_
  have hw := hw.put (q := q0) (j := 0) (show qT < (m + 3) from (by omega))
  exact c_vret hC hE dX1_init_28 ⟨rfl, rfl, hw⟩
theorem dX6_init_0 : decode cX6_init 0 = .ok (.aload_n 0, 1) := by decide +kernel
theorem dX6_init_1 : decode cX6_init 1 = .ok (.invokespecial 3, 3) := by decide +kernel
theorem dX6_init_4 : decode cX6_init 4 = .ok (.aload_n 0, 1) := by decide +kernel
theorem dX6_init_5 : decode cX6_init 5 = .ok (.iconst 5, 1) := by decide +kernel
theorem dX6_init_6 : decode cX6_init 6 = .ok (.anewarray 11, 3) := by decide +kernel
theorem dX6_init_9 : decode cX6_init 9 = .ok (.putfield 13, 3) := by decide +kernel
theorem dX6_init_12 : decode cX6_init 12 = .ok (.aload_n 0, 1) := by decide +kernel
theorem dX6_init_13 : decode cX6_init 13 = .ok (.aload_n 1, 1) := by decide +kernel
theorem dX6_init_14 : decode cX6_init 14 = .ok (.putfield 17, 3) := by decide +kernel
theorem dX6_init_17 : decode cX6_init 17 = .ok (.iconst 0, 1) := by decide +kernel
theorem dX6_init_18 : decode cX6_init 18 = .ok (.istore_n 2, 1) := by decide +kernel
theorem dX6_init_19 : decode cX6_init 19 = .ok (.iload_n 2, 1) := by decide +kernel
theorem dX6_init_20 : decode cX6_init 20 = .ok (.iconst 5, 1) := by decide +kernel
theorem dX6_init_21 : decode cX6_init 21 = .ok (.if_icmp .ge 22, 3) := by decide +kernel
theorem dX6_init_24 : decode cX6_init 24 = .ok (.aload_n 0, 1) := by decide +kernel
theorem dX6_init_25 : decode cX6_init 25 = .ok (.getfield 13, 3) := by decide +kernel
theorem dX6_init_28 : decode cX6_init 28 = .ok (.iload_n 2, 1) := by decide +kernel
theorem dX6_init_29 : decode cX6_init 29 = .ok (.new 11, 3) := by decide +kernel
theorem dX6_init_32 : decode cX6_init 32 = .ok (.dup, 1) := by decide +kernel
theorem dX6_init_33 : decode cX6_init 33 = .ok (.invokespecial 21, 3) := by decide +kernel
theorem dX6_init_36 : decode cX6_init 36 = .ok (.aastore, 1) := by decide +kernel
theorem dX6_init_37 : decode cX6_init 37 = .ok (.iinc 2 1, 3) := by decide +kernel
theorem dX6_init_40 : decode cX6_init 40 = .ok (.goto (-21), 3) := by decide +kernel
theorem dX6_init_43 : decode cX6_init 43 = .ok (.return_, 1) := by decide +kernel
abbrev rm_X6_init : Room := { frames := 2, cells := 26, slots := 225, locals := 32 }
set_option maxHeartbeats 4000000 in
set_option maxRecDepth 20000 in
theorem t_X6_init {sh : Nat → Nat × Nat} {hr : Nat → Nat → Option Nat} (hs0 : sh 5 = (6, 0)) (hw0 : WFr hr 6) : MT1 yX6_init cX6_init 3 rm_X6_init 26 225 [.ref 5, .ref 4] 0 6 sh hr (fun sh1 hr1 => sh1 = (va_up (va_up (va_up (va_up (va_up (va_up (va_up (va_up (va_up (va_up (va_up (va_up (va_up (va_up (va_up (va_up (va_up (va_up (va_up (va_up (va_up (va_up (va_up (va_up (va_up (va_up sh 6 (24, 5)) 7 (2, 0)) 8 (20, 8)) 9 (20, 8)) 10 (20, 8)) 11 (20, 8)) 12 (2, 0)) 13 (20, 8)) 14 (20, 8)) 15 (20, 8)) 16 (20, 8)) 17 (2, 0)) 18 (20, 8)) 19 (20, 8)) 20 (20, 8)) 21 (20, 8)) 22 (2, 0)) 23 (20, 8)) 24 (20, 8)) 25 (20, 8)) 26 (20, 8)) 27 (2, 0)) 28 (20, 8)) 29 (20, 8)) 30 (20, 8)) 31 (20, 8)) ∧ hr1 = (up2 (up2 (clr (up2 (clr (up2 (clr (up2 (clr (clr (up2 (up2 (clr (up2 (clr (up2 (clr (up2 (clr (clr (up2 (up2 (clr (up2 (clr (up2 (clr (up2 (clr (clr (up2 (up2 (clr (up2 (clr (up2 (clr (up2 (clr (clr (up2 (up2 (clr (up2 (clr (up2 (clr (up2 (clr (clr (up2 (up2 (clr hr 6) 5 1 (some 6)) 5 0 (some 4)) 7) 8) 7 8 (some 8)) 9) 7 9 (some 9)) 10) 7 10 (some 10)) 11) 7 11 (some 11)) 6 0 (some 7)) 12) 13) 12 8 (some 13)) 14) 12 9 (some 14)) 15) 12 10 (some 15)) 16) 12 11 (some 16)) 6 1 (some 12)) 17) 18) 17 8 (some 18)) 19) 17 9 (some 19)) 20) 17 10 (some 20)) 21) 17 11 (some 21)) 6 2 (some 17)) 22) 23) 22 8 (some 23)) 24) 22 9 (some 24)) 25) 22 10 (some 25)) 26) 22 11 (some 26)) 6 3 (some 22)) 27) 28) 27 8 (some 28)) 29) 27 9 (some 29)) 30) 27 10 (some 30)) 31) 27 11 (some 31)) 6 4 (some 27)) ∧ WFr hr1 32) := by
  refine MT1.of (by decide +kernel) (Nat.le_of_ble_eq_true rfl) rfl (fun C hC hI hE => ?_)
  have hw := hw0
  have hE : xEnd1 C 6 0 (6 + 26) 26 225 _ := hE
  show KW C 0 0 [(0, .ref 5), (1, .ref 4)] [] 6 sh hr 0 0
  refine x_aload_n hC dX6_init_0 (lm 0 rfl) ?_
  refine c_oinit hC dX6_init_1 oi_6_3 oi_m oi_c (Nat.le_of_ble_eq_true rfl) (Nat.le_of_ble_eq_true rfl) ?_
  refine x_aload_n hC dX6_init_4 (lm 0 rfl) ?_
  refine x_iconst hC dX6_init_5 ic_5 ?_
  refine c_newRE (N := 5) (m2 := 7) (q := 6) (k2 := 1) (n2 := 5) (ci := 2) (Nat.zero_add _) rfl rfl rfl hC dX6_init_6 cl_6_11 (by decide) (by decide) (by decide) (by decide) (by decide) hw (ok_r (by decide) (ok_r (by decide) (ok_r (by decide) ok_nil))) (hE.gr (by decide)) (Nat.le_of_ble_eq_true rfl) (Nat.le_of_ble_eq_true rfl) ?_
  have hw : WFr _ 7 := hw.clr (q := 6)
  refine c_putF (q := 5) (r := 6) hC hI dX6_init_9 fk_6_13 rfl rfl (fun _ => rfl) (fun _ => rfl) ⟨⟨Nat.zero_le _, Nat.le_of_ble_eq_true rfl⟩, by simp [va_up, hs0]⟩ ?_
  have hw := hw.put (q := 5) (j := 1) (show 6 < 7 from (by decide))
  refine x_aload_n hC dX6_init_12 (lm 0 rfl) ?_
  refine x_aload_n hC dX6_init_13 (lm 1 rfl) ?_
  refine c_putF (q := 5) (r := 4) hC hI dX6_init_14 fk_6_17 rfl rfl (fun _ => rfl) (fun _ => rfl) ⟨⟨Nat.zero_le _, Nat.le_of_ble_eq_true rfl⟩, by simp [va_up, hs0]⟩ ?_
  have hw := hw.put (q := 5) (j := 0) (show 4 < 7 from (by decide))
  refine x_iconst hC dX6_init_17 ic_0 ?_
  refine x_istore_n (lv' := [(2, .int 0), (0, .ref 5), (1, .ref 4)]) hC dX6_init_18 (by decide) rfl ?_
  refine x_iload_n hC dX6_init_19 (lm 0 rfl) ?_
  refine x_iconst hC dX6_init_20 ic_5 ?_
  refine x_icmp_ge (tgt := 43) hC dX6_init_21 (by decide) (fun hc => ?_) (fun hc => ?_)
  · exact absurd hc (by decide)
  refine x_aload_n hC dX6_init_24 (lm 1 rfl) ?_
  refine x_getR (r := 6) hC dX6_init_25 fk_6_13.1 fk_6_13.2.1 fk_6_13.2.2 ⟨⟨Nat.zero_le _, Nat.le_of_ble_eq_true rfl⟩, by simp [va_up, hs0]⟩ (by simp [zg, up2, clr]) ?_
  refine x_iload_n hC dX6_init_28 (lm 0 rfl) ?_
  refine c_newE (m2 := 8) (q := 7) (k2 := 2) (n2 := 17) (ci := 2) (Nat.zero_add _) rfl rfl rfl hC dX6_init_29 cl_6_11 in_2 ii_2 (by decide) (by decide) hw (ok_i (ok_r (by decide) (ok_r (by decide) (ok_i (ok_r (by decide) ok_nil))))) (hE.gr (by decide)) (Nat.le_of_ble_eq_true rfl) (Nat.le_of_ble_eq_true rfl) ?_
  have hw : WFr _ 8 := hw.clr (q := 7)
  refine x_dup hC dX6_init_32 rfl ?_
  refine c_callIN (mc := 4) (ms := 32) (avs := []) (st := [.ref 7, .int 0, .ref 6]) hC dX6_init_33 nl_6_21 mj_X2_init rfl (t_X2_init (m := 8) (q0 := 7) (by decide) (by simp [va_up]) (by decide) hw) (ok_i (ok_r (by decide) (ok_r (by decide) (ok_r (by decide) (ok_i (ok_r (by decide) ok_nil)))))) (hE.gr (by decide)) (Nat.le_of_ble_eq_true rfl) ⟨rfl, rfl⟩ ⟨Nat.le_of_ble_eq_true rfl, Nat.le_of_ble_eq_true rfl⟩ ⟨Nat.le_of_ble_eq_true rfl, Nat.le_of_ble_eq_true rfl⟩ (fun sh1 hr1 hp => ?_)
  obtain ⟨rfl, rfl, hw⟩ := hp
  refine W0 (m2 := 12) (k2 := 6) (n2 := 49) rfl rfl rfl ?_
  have hw : WFr _ 12 := hw
  refine c_aast (z := 0) (ci := 2) (len := 5) hC dX6_init_36 (by decide) ⟨⟨Nat.zero_le _, Nat.le_of_ble_eq_true rfl⟩, by simp [va_up]⟩ ⟨⟨Nat.zero_le _, Nat.le_of_ble_eq_true rfl⟩, by simp [va_up]⟩ (vi (by decide)) (by decide) ?_
  have hw := hw.put (q := 6) (j := 0) (show 7 < 12 from (by decide))
  refine x_iinc (u := 1) (lv' := [(2, .int 1), (0, .ref 5), (1, .ref 4)]) hC dX6_init_37 (lm 0 rfl) (by decide) (by decide) rfl ?_
  refine x_goto (tgt := 19) hC dX6_init_40 (by decide) ?_
  refine x_iload_n hC dX6_init_19 (lm 0 rfl) ?_
  refine x_iconst hC dX6_init_20 ic_5 ?_
  refine x_icmp_ge (tgt := 43) hC dX6_init_21 (by decide) (fun hc => ?_) (fun hc => ?_)
  · exact absurd hc (by decide)
  refine x_aload_n hC dX6_init_24 (lm 1 rfl) ?_
  refine x_getR (r := 6) hC dX6_init_25 fk_6_13.1 fk_6_13.2.1 fk_6_13.2.2 ⟨⟨Nat.zero_le _, Nat.le_of_ble_eq_true rfl⟩, by simp [va_up, hs0]⟩ (by simp [zg, up2, clr]) ?_
  refine x_iload_n hC dX6_init_28 (lm 0 rfl) ?_
  refine c_newE (m2 := 13) (q := 12) (k2 := 7) (n2 := 61) (ci := 2) (Nat.zero_add _) rfl rfl rfl hC dX6_init_29 cl_6_11 in_2 ii_2 (by decide) (by decide) hw (ok_i (ok_r (by decide) (ok_r (by decide) (ok_i (ok_r (by decide) ok_nil))))) (hE.gr (by decide)) (Nat.le_of_ble_eq_true rfl) (Nat.le_of_ble_eq_true rfl) ?_
  have hw : WFr _ 13 := hw.clr (q := 12)
  refine x_dup hC dX6_init_32 rfl ?_
  refine c_callIN (mc := 4) (ms := 32) (avs := []) (st := [.ref 12, .int 1, .ref 6]) hC dX6_init_33 nl_6_21 mj_X2_init rfl (t_X2_init (m := 13) (q0 := 12) (by decide) (by simp [va_up]) (by decide) hw) (ok_i (ok_r (by decide) (ok_r (by decide) (ok_r (by decide) (ok_i (ok_r (by decide) ok_nil)))))) (hE.gr (by decide)) (Nat.le_of_ble_eq_true rfl) ⟨rfl, rfl⟩ ⟨Nat.le_of_ble_eq_true rfl, Nat.le_of_ble_eq_true rfl⟩ ⟨Nat.le_of_ble_eq_true rfl, Nat.le_of_ble_eq_true rfl⟩ (fun sh1 hr1 hp => ?_)
  obtain ⟨rfl, rfl, hw⟩ := hp
  refine W0 (m2 := 17) (k2 := 11) (n2 := 93) rfl rfl rfl ?_
  have hw : WFr _ 17 := hw
  refine c_aast (z := 1) (ci := 2) (len := 5) hC dX6_init_36 (by decide) ⟨⟨Nat.zero_le _, Nat.le_of_ble_eq_true rfl⟩, by simp [va_up]⟩ ⟨⟨Nat.zero_le _, Nat.le_of_ble_eq_true rfl⟩, by simp [va_up]⟩ (vi (by decide)) (by decide) ?_
  have hw := hw.put (q := 6) (j := 1) (show 12 < 17 from (by decide))
  refine x_iinc (u := 2) (lv' := [(2, .int 2), (0, .ref 5), (1, .ref 4)]) hC dX6_init_37 (lm 0 rfl) (by decide) (by decide) rfl ?_
  refine x_goto (tgt := 19) hC dX6_init_40 (by decide) ?_
  refine x_iload_n hC dX6_init_19 (lm 0 rfl) ?_
  refine x_iconst hC dX6_init_20 ic_5 ?_
  refine x_icmp_ge (tgt := 43) hC dX6_init_21 (by decide) (fun hc => ?_) (fun hc => ?_)
  · exact absurd hc (by decide)
  refine x_aload_n hC dX6_init_24 (lm 1 rfl) ?_
  refine x_getR (r := 6) hC dX6_init_25 fk_6_13.1 fk_6_13.2.1 fk_6_13.2.2 ⟨⟨Nat.zero_le _, Nat.le_of_ble_eq_true rfl⟩, by simp [va_up, hs0]⟩ (by simp [zg, up2, clr]) ?_
  refine x_iload_n hC dX6_init_28 (lm 0 rfl) ?_
  refine c_newE (m2 := 18) (q := 17) (k2 := 12) (n2 := 105) (ci := 2) (Nat.zero_add _) rfl rfl rfl hC dX6_init_29 cl_6_11 in_2 ii_2 (by decide) (by decide) hw (ok_i (ok_r (by decide) (ok_r (by decide) (ok_i (ok_r (by decide) ok_nil))))) (hE.gr (by decide)) (Nat.le_of_ble_eq_true rfl) (Nat.le_of_ble_eq_true rfl) ?_
  have hw : WFr _ 18 := hw.clr (q := 17)
  refine x_dup hC dX6_init_32 rfl ?_
  refine c_callIN (mc := 4) (ms := 32) (avs := []) (st := [.ref 17, .int 2, .ref 6]) hC dX6_init_33 nl_6_21 mj_X2_init rfl (t_X2_init (m := 18) (q0 := 17) (by decide) (by simp [va_up]) (by decide) hw) (ok_i (ok_r (by decide) (ok_r (by decide) (ok_r (by decide) (ok_i (ok_r (by decide) ok_nil)))))) (hE.gr (by decide)) (Nat.le_of_ble_eq_true rfl) ⟨rfl, rfl⟩ ⟨Nat.le_of_ble_eq_true rfl, Nat.le_of_ble_eq_true rfl⟩ ⟨Nat.le_of_ble_eq_true rfl, Nat.le_of_ble_eq_true rfl⟩ (fun sh1 hr1 hp => ?_)
  obtain ⟨rfl, rfl, hw⟩ := hp
  refine W0 (m2 := 22) (k2 := 16) (n2 := 137) rfl rfl rfl ?_
  have hw : WFr _ 22 := hw
  refine c_aast (z := 2) (ci := 2) (len := 5) hC dX6_init_36 (by decide) ⟨⟨Nat.zero_le _, Nat.le_of_ble_eq_true rfl⟩, by simp [va_up]⟩ ⟨⟨Nat.zero_le _, Nat.le_of_ble_eq_true rfl⟩, by simp [va_up]⟩ (vi (by decide)) (by decide) ?_
  have hw := hw.put (q := 6) (j := 2) (show 17 < 22 from (by decide))
  refine x_iinc (u := 3) (lv' := [(2, .int 3), (0, .ref 5), (1, .ref 4)]) hC dX6_init_37 (lm 0 rfl) (by decide) (by decide) rfl ?_
  refine x_goto (tgt := 19) hC dX6_init_40 (by decide) ?_
  refine x_iload_n hC dX6_init_19 (lm 0 rfl) ?_
  refine x_iconst hC dX6_init_20 ic_5 ?_
  refine x_icmp_ge (tgt := 43) hC dX6_init_21 (by decide) (fun hc => ?_) (fun hc => ?_)
  · exact absurd hc (by decide)
  refine x_aload_n hC dX6_init_24 (lm 1 rfl) ?_
  refine x_getR (r := 6) hC dX6_init_25 fk_6_13.1 fk_6_13.2.1 fk_6_13.2.2 ⟨⟨Nat.zero_le _, Nat.le_of_ble_eq_true rfl⟩, by simp [va_up, hs0]⟩ (by simp [zg, up2, clr]) ?_
  refine x_iload_n hC dX6_init_28 (lm 0 rfl) ?_
  refine c_newE (m2 := 23) (q := 22) (k2 := 17) (n2 := 149) (ci := 2) (Nat.zero_add _) rfl rfl rfl hC dX6_init_29 cl_6_11 in_2 ii_2 (by decide) (by decide) hw (ok_i (ok_r (by decide) (ok_r (by decide) (ok_i (ok_r (by decide) ok_nil))))) (hE.gr (by decide)) (Nat.le_of_ble_eq_true rfl) (Nat.le_of_ble_eq_true rfl) ?_
  have hw : WFr _ 23 := hw.clr (q := 22)
  refine x_dup hC dX6_init_32 rfl ?_
  refine c_callIN (mc := 4) (ms := 32) (avs := []) (st := [.ref 22, .int 3, .ref 6]) hC dX6_init_33 nl_6_21 mj_X2_init rfl (t_X2_init (m := 23) (q0 := 22) (by decide) (by simp [va_up]) (by decide) hw) (ok_i (ok_r (by decide) (ok_r (by decide) (ok_r (by decide) (ok_i (ok_r (by decide) ok_nil)))))) (hE.gr (by decide)) (Nat.le_of_ble_eq_true rfl) ⟨rfl, rfl⟩ ⟨Nat.le_of_ble_eq_true rfl, Nat.le_of_ble_eq_true rfl⟩ ⟨Nat.le_of_ble_eq_true rfl, Nat.le_of_ble_eq_true rfl⟩ (fun sh1 hr1 hp => ?_)
  obtain ⟨rfl, rfl, hw⟩ := hp
  refine W0 (m2 := 27) (k2 := 21) (n2 := 181) rfl rfl rfl ?_
  have hw : WFr _ 27 := hw
  refine c_aast (z := 3) (ci := 2) (len := 5) hC dX6_init_36 (by decide) ⟨⟨Nat.zero_le _, Nat.le_of_ble_eq_true rfl⟩, by simp [va_up]⟩ ⟨⟨Nat.zero_le _, Nat.le_of_ble_eq_true rfl⟩, by simp [va_up]⟩ (vi (by decide)) (by decide) ?_
  have hw := hw.put (q := 6) (j := 3) (show 22 < 27 from (by decide))
  refine x_iinc (u := 4) (lv' := [(2, .int 4), (0, .ref 5), (1, .ref 4)]) hC dX6_init_37 (lm 0 rfl) (by decide) (by decide) rfl ?_
  refine x_goto (tgt := 19) hC dX6_init_40 (by decide) ?_
  refine x_iload_n hC dX6_init_19 (lm 0 rfl) ?_
  refine x_iconst hC dX6_init_20 ic_5 ?_
  refine x_icmp_ge (tgt := 43) hC dX6_init_21 (by decide) (fun hc => ?_) (fun hc => ?_)
  · exact absurd hc (by decide)
  refine x_aload_n hC dX6_init_24 (lm 1 rfl) ?_
  refine x_getR (r := 6) hC dX6_init_25 fk_6_13.1 fk_6_13.2.1 fk_6_13.2.2 ⟨⟨Nat.zero_le _, Nat.le_of_ble_eq_true rfl⟩, by simp [va_up, hs0]⟩ (by simp [zg, up2, clr]) ?_
  refine x_iload_n hC dX6_init_28 (lm 0 rfl) ?_
  refine c_newE (m2 := 28) (q := 27) (k2 := 22) (n2 := 193) (ci := 2) (Nat.zero_add _) rfl rfl rfl hC dX6_init_29 cl_6_11 in_2 ii_2 (by decide) (by decide) hw (ok_i (ok_r (by decide) (ok_r (by decide) (ok_i (ok_r (by decide) ok_nil))))) (hE.gr (by decide)) (Nat.le_of_ble_eq_true rfl) (Nat.le_of_ble_eq_true rfl) ?_
  have hw : WFr _ 28 := hw.clr (q := 27)
  refine x_dup hC dX6_init_32 rfl ?_
  refine c_callIN (mc := 4) (ms := 32) (avs := []) (st := [.ref 27, .int 4, .ref 6]) hC dX6_init_33 nl_6_21 mj_X2_init rfl (t_X2_init (m := 28) (q0 := 27) (by decide) (by simp [va_up]) (by decide) hw) (ok_i (ok_r (by decide) (ok_r (by decide) (ok_r (by decide) (ok_i (ok_r (by decide) ok_nil)))))) (hE.gr (by decide)) (Nat.le_of_ble_eq_true rfl) ⟨rfl, rfl⟩ ⟨Nat.le_of_ble_eq_true rfl, Nat.le_of_ble_eq_true rfl⟩ ⟨Nat.le_of_ble_eq_true rfl, Nat.le_of_ble_eq_true rfl⟩ (fun sh1 hr1 hp => ?_)
  obtain ⟨rfl, rfl, hw⟩ := hp
  refine W0 (m2 := 32) (k2 := 26) (n2 := 225) rfl rfl rfl ?_
  have hw : WFr _ 32 := hw
  refine c_aast (z := 4) (ci := 2) (len := 5) hC dX6_init_36 (by decide) ⟨⟨Nat.zero_le _, Nat.le_of_ble_eq_true rfl⟩, by simp [va_up]⟩ ⟨⟨Nat.zero_le _, Nat.le_of_ble_eq_true rfl⟩, by simp [va_up]⟩ (vi (by decide)) (by decide) ?_
  have hw := hw.put (q := 6) (j := 4) (show 27 < 32 from (by decide))
  refine x_iinc (u := 5) (lv' := [(2, .int 5), (0, .ref 5), (1, .ref 4)]) hC dX6_init_37 (lm 0 rfl) (by decide) (by decide) rfl ?_
  refine x_goto (tgt := 19) hC dX6_init_40 (by decide) ?_
  refine x_iload_n hC dX6_init_19 (lm 0 rfl) ?_
  refine x_iconst hC dX6_init_20 ic_5 ?_
  refine x_icmp_ge (tgt := 43) hC dX6_init_21 (by decide) (fun hc => ?_) (fun hc => ?_)
  rotate_left
  · exact absurd hc (by decide)
  exact c_vret hC hE dX6_init_43 ⟨rfl, rfl, hw⟩
theorem dX8_init_0 : decode cX8_init 0 = .ok (.aload_n 0, 1) := by decide +kernel
theorem dX8_init_1 : decode cX8_init 1 = .ok (.invokespecial 1, 3) := by decide +kernel
theorem dX8_init_4 : decode cX8_init 4 = .ok (.aload_n 0, 1) := by decide +kernel
theorem dX8_init_5 : decode cX8_init 5 = .ok (.new 7, 3) := by decide +kernel
theorem dX8_init_8 : decode cX8_init 8 = .ok (.dup, 1) := by decide +kernel
theorem dX8_init_9 : decode cX8_init 9 = .ok (.invokespecial 9, 3) := by decide +kernel
theorem dX8_init_12 : decode cX8_init 12 = .ok (.putfield 10, 3) := by decide +kernel
theorem dX8_init_15 : decode cX8_init 15 = .ok (.aload_n 0, 1) := by decide +kernel
theorem dX8_init_16 : decode cX8_init 16 = .ok (.new 16, 3) := by decide +kernel
theorem dX8_init_19 : decode cX8_init 19 = .ok (.dup, 1) := by decide +kernel
theorem dX8_init_20 : decode cX8_init 20 = .ok (.invokespecial 18, 3) := by decide +kernel
theorem dX8_init_23 : decode cX8_init 23 = .ok (.putfield 19, 3) := by decide +kernel
theorem dX8_init_26 : decode cX8_init 26 = .ok (.aload_n 0, 1) := by decide +kernel
theorem dX8_init_27 : decode cX8_init 27 = .ok (.new 23, 3) := by decide +kernel
theorem dX8_init_30 : decode cX8_init 30 = .ok (.dup, 1) := by decide +kernel
theorem dX8_init_31 : decode cX8_init 31 = .ok (.invokespecial 25, 3) := by decide +kernel
theorem dX8_init_34 : decode cX8_init 34 = .ok (.putfield 26, 3) := by decide +kernel
theorem dX8_init_37 : decode cX8_init 37 = .ok (.aload_n 0, 1) := by decide +kernel
theorem dX8_init_38 : decode cX8_init 38 = .ok (.new 30, 3) := by decide +kernel
theorem dX8_init_41 : decode cX8_init 41 = .ok (.dup, 1) := by decide +kernel
theorem dX8_init_42 : decode cX8_init 42 = .ok (.aload_n 0, 1) := by decide +kernel
theorem dX8_init_43 : decode cX8_init 43 = .ok (.getfield 26, 3) := by decide +kernel
theorem dX8_init_46 : decode cX8_init 46 = .ok (.invokespecial 32, 3) := by decide +kernel
theorem dX8_init_49 : decode cX8_init 49 = .ok (.putfield 35, 3) := by decide +kernel
theorem dX8_init_52 : decode cX8_init 52 = .ok (.aload_n 0, 1) := by decide +kernel
theorem dX8_init_53 : decode cX8_init 53 = .ok (.iconst 4, 1) := by decide +kernel
theorem dX8_init_54 : decode cX8_init 54 = .ok (.anewarray 39, 3) := by decide +kernel
theorem dX8_init_57 : decode cX8_init 57 = .ok (.putfield 41, 3) := by decide +kernel
theorem dX8_init_60 : decode cX8_init 60 = .ok (.aload_n 0, 1) := by decide +kernel
theorem dX8_init_61 : decode cX8_init 61 = .ok (.iconst 4, 1) := by decide +kernel
theorem dX8_init_62 : decode cX8_init 62 = .ok (.anewarray 45, 3) := by decide +kernel
theorem dX8_init_65 : decode cX8_init 65 = .ok (.putfield 47, 3) := by decide +kernel
theorem dX8_init_68 : decode cX8_init 68 = .ok (.iconst 0, 1) := by decide +kernel
theorem dX8_init_69 : decode cX8_init 69 = .ok (.istore_n 1, 1) := by decide +kernel
theorem dX8_init_70 : decode cX8_init 70 = .ok (.iload_n 1, 1) := by decide +kernel
theorem dX8_init_71 : decode cX8_init 71 = .ok (.iconst 4, 1) := by decide +kernel
theorem dX8_init_72 : decode cX8_init 72 = .ok (.if_icmp .ge 43, 3) := by decide +kernel
theorem dX8_init_75 : decode cX8_init 75 = .ok (.aload_n 0, 1) := by decide +kernel
theorem dX8_init_76 : decode cX8_init 76 = .ok (.getfield 41, 3) := by decide +kernel
theorem dX8_init_79 : decode cX8_init 79 = .ok (.iload_n 1, 1) := by decide +kernel
theorem dX8_init_80 : decode cX8_init 80 = .ok (.new 39, 3) := by decide +kernel
theorem dX8_init_83 : decode cX8_init 83 = .ok (.dup, 1) := by decide +kernel
theorem dX8_init_84 : decode cX8_init 84 = .ok (.aload_n 0, 1) := by decide +kernel
theorem dX8_init_85 : decode cX8_init 85 = .ok (.getfield 26, 3) := by decide +kernel
theorem dX8_init_88 : decode cX8_init 88 = .ok (.invokespecial 51, 3) := by decide +kernel
theorem dX8_init_91 : decode cX8_init 91 = .ok (.aastore, 1) := by decide +kernel
theorem dX8_init_92 : decode cX8_init 92 = .ok (.aload_n 0, 1) := by decide +kernel
theorem dX8_init_93 : decode cX8_init 93 = .ok (.getfield 47, 3) := by decide +kernel
theorem dX8_init_96 : decode cX8_init 96 = .ok (.iload_n 1, 1) := by decide +kernel
theorem dX8_init_97 : decode cX8_init 97 = .ok (.new 45, 3) := by decide +kernel
theorem dX8_init_100 : decode cX8_init 100 = .ok (.dup, 1) := by decide +kernel
theorem dX8_init_101 : decode cX8_init 101 = .ok (.aload_n 0, 1) := by decide +kernel
theorem dX8_init_102 : decode cX8_init 102 = .ok (.getfield 26, 3) := by decide +kernel
theorem dX8_init_105 : decode cX8_init 105 = .ok (.invokespecial 52, 3) := by decide +kernel
theorem dX8_init_108 : decode cX8_init 108 = .ok (.aastore, 1) := by decide +kernel
theorem dX8_init_109 : decode cX8_init 109 = .ok (.iinc 1 1, 3) := by decide +kernel
theorem dX8_init_112 : decode cX8_init 112 = .ok (.goto (-42), 3) := by decide +kernel
theorem dX8_init_115 : decode cX8_init 115 = .ok (.return_, 1) := by decide +kernel
abbrev rm_X8_init : Room := { frames := 3, cells := 77, slots := 937, locals := 54 }
set_option maxHeartbeats 4000000 in
set_option maxRecDepth 20000 in
theorem t_X8_init  : MT1 yX8_init cX8_init 2 rm_X8_init 77 937 [.ref 0] 0 1 (va_up (fun _ => (99, 0)) 0 (8, 0)) (clr (fun _ _ => none) 0) (fun sh1 hr1 => sh1 = (va_up (va_up (va_up (va_up (va_up (va_up (va_up (va_up (va_up (va_up (va_up (va_up (va_up (va_up (va_up (va_up (va_up (va_up (va_up (va_up (va_up (va_up (va_up (va_up (va_up (va_up (va_up (va_up (va_up (va_up (va_up (va_up (va_up (va_up (va_up (va_up (va_up (va_up (va_up (va_up (va_up (va_up (va_up (va_up (va_up (va_up (va_up (va_up (va_up (va_up (va_up (va_up (va_up (va_up (va_up (va_up (va_up (va_up (va_up (va_up (va_up (va_up (va_up (va_up (va_up (va_up (va_up (va_up (va_up (va_up (va_up (va_up (va_up (va_up (va_up (va_up (va_up (va_up (fun _ => (99, 0)) 0 (8, 0)) 1 (5, 0)) 2 (20, 9)) 3 (0, 0)) 4 (7, 0)) 5 (6, 0)) 6 (24, 5)) 7 (2, 0)) 8 (20, 8)) 9 (20, 8)) 10 (20, 8)) 11 (20, 8)) 12 (2, 0)) 13 (20, 8)) 14 (20, 8)) 15 (20, 8)) 16 (20, 8)) 17 (2, 0)) 18 (20, 8)) 19 (20, 8)) 20 (20, 8)) 21 (20, 8)) 22 (2, 0)) 23 (20, 8)) 24 (20, 8)) 25 (20, 8)) 26 (20, 8)) 27 (2, 0)) 28 (20, 8)) 29 (20, 8)) 30 (20, 8)) 31 (20, 8)) 32 (25, 4)) 33 (23, 4)) 34 (3, 0)) 35 (20, 24)) 36 (20, 24)) 37 (20, 16)) 38 (20, 16)) 39 (20, 16)) 40 (21, 16)) 41 (1, 0)) 42 (4, 0)) 43 (20, 10)) 44 (20, 16)) 45 (3, 0)) 46 (20, 24)) 47 (20, 24)) 48 (20, 16)) 49 (20, 16)) 50 (20, 16)) 51 (21, 16)) 52 (1, 0)) 53 (4, 0)) 54 (20, 10)) 55 (20, 16)) 56 (3, 0)) 57 (20, 24)) 58 (20, 24)) 59 (20, 16)) 60 (20, 16)) 61 (20, 16)) 62 (21, 16)) 63 (1, 0)) 64 (4, 0)) 65 (20, 10)) 66 (20, 16)) 67 (3, 0)) 68 (20, 24)) 69 (20, 24)) 70 (20, 16)) 71 (20, 16)) 72 (20, 16)) 73 (21, 16)) 74 (1, 0)) 75 (4, 0)) 76 (20, 10)) 77 (20, 16)) ∧ hr1 = (up2 (up2 (up2 (clr (up2 (up2 (clr (clr (clr (up2 (up2 (up2 (clr (up2 (clr (up2 (clr (up2 (clr (up2 (clr (up2 (clr (clr (up2 (up2 (up2 (clr (up2 (up2 (clr (clr (clr (up2 (up2 (up2 (clr (up2 (clr (up2 (clr (up2 (clr (up2 (clr (up2 (clr (clr (up2 (up2 (up2 (clr (up2 (up2 (clr (clr (clr (up2 (up2 (up2 (clr (up2 (clr (up2 (clr (up2 (clr (up2 (clr (up2 (clr (clr (up2 (up2 (up2 (clr (up2 (up2 (clr (clr (clr (up2 (up2 (up2 (clr (up2 (clr (up2 (clr (up2 (clr (up2 (clr (up2 (clr (clr (up2 (clr (up2 (clr (up2 (up2 (up2 (clr (up2 (clr (up2 (clr (up2 (clr (clr (up2 (up2 (clr (up2 (clr (up2 (clr (up2 (clr (clr (up2 (up2 (clr (up2 (clr (up2 (clr (up2 (clr (clr (up2 (up2 (clr (up2 (clr (up2 (clr (up2 (clr (clr (up2 (up2 (clr (up2 (clr (up2 (clr (up2 (clr (clr (up2 (up2 (clr (clr (up2 (clr (up2 (clr (up2 (up2 (clr (clr (clr (fun _ _ => none) 0) 1) 2) 1 0 (some 2)) 0 0 (some 1)) 3) 0 1 (some 3)) 4) 0 2 (some 4)) 5) 6) 5 1 (some 6)) 5 0 (some 4)) 7) 8) 7 8 (some 8)) 9) 7 9 (some 9)) 10) 7 10 (some 10)) 11) 7 11 (some 11)) 6 0 (some 7)) 12) 13) 12 8 (some 13)) 14) 12 9 (some 14)) 15) 12 10 (some 15)) 16) 12 11 (some 16)) 6 1 (some 12)) 17) 18) 17 8 (some 18)) 19) 17 9 (some 19)) 20) 17 10 (some 20)) 21) 17 11 (some 21)) 6 2 (some 17)) 22) 23) 22 8 (some 23)) 24) 22 9 (some 24)) 25) 22 10 (some 25)) 26) 22 11 (some 26)) 6 3 (some 22)) 27) 28) 27 8 (some 28)) 29) 27 9 (some 29)) 30) 27 10 (some 30)) 31) 27 11 (some 31)) 6 4 (some 27)) 0 3 (some 5)) 32) 0 4 (some 32)) 33) 0 5 (some 33)) 34) 35) 34 11 (some 35)) 36) 34 12 (some 36)) 37) 34 13 (some 37)) 38) 34 14 (some 38)) 39) 34 15 (some 39)) 40) 34 16 (some 40)) 34 0 (some 4)) 32 0 (some 34)) 41) 42) 43) 42 0 (some 43)) 41 1 (some 42)) 44) 41 11 (some 44)) 41 0 (some 4)) 33 0 (some 41)) 45) 46) 45 11 (some 46)) 47) 45 12 (some 47)) 48) 45 13 (some 48)) 49) 45 14 (some 49)) 50) 45 15 (some 50)) 51) 45 16 (some 51)) 45 0 (some 4)) 32 1 (some 45)) 52) 53) 54) 53 0 (some 54)) 52 1 (some 53)) 55) 52 11 (some 55)) 52 0 (some 4)) 33 1 (some 52)) 56) 57) 56 11 (some 57)) 58) 56 12 (some 58)) 59) 56 13 (some 59)) 60) 56 14 (some 60)) 61) 56 15 (some 61)) 62) 56 16 (some 62)) 56 0 (some 4)) 32 2 (some 56)) 63) 64) 65) 64 0 (some 65)) 63 1 (some 64)) 66) 63 11 (some 66)) 63 0 (some 4)) 33 2 (some 63)) 67) 68) 67 11 (some 68)) 69) 67 12 (some 69)) 70) 67 13 (some 70)) 71) 67 14 (some 71)) 72) 67 15 (some 72)) 73) 67 16 (some 73)) 67 0 (some 4)) 32 3 (some 67)) 74) 75) 76) 75 0 (some 76)) 74 1 (some 75)) 77) 74 11 (some 77)) 74 0 (some 4)) 33 3 (some 74)) ∧ WFr hr1 78) := by
  refine MT1.of (by decide +kernel) (Nat.le_of_ble_eq_true rfl) rfl (fun C hC hI hE => ?_)
  have hw : WFr (clr (fun _ _ => none) 0) 1 := WFr.clr (n := 0) (fun x j r e => by cases e)
  have hE : xEnd1 C 1 0 (1 + 77) 77 937 _ := hE
  show KW C 0 0 [(0, .ref 0)] [] 1 (va_up (fun _ => (99, 0)) 0 (8, 0)) (clr (fun _ _ => none) 0) 0 0
  refine x_aload_n hC dX8_init_0 (lm 0 rfl) ?_
  refine c_oinit hC dX8_init_1 oi_8_1 oi_m oi_c (Nat.le_of_ble_eq_true rfl) (Nat.le_of_ble_eq_true rfl) ?_
  refine x_aload_n hC dX8_init_4 (lm 0 rfl) ?_
  refine c_newE (m2 := 2) (q := 1) (k2 := 1) (n2 := 2) (ci := 5) (Nat.zero_add _) rfl rfl rfl hC dX8_init_5 cl_8_7 in_5 ii_5 (by decide) (by decide) hw (ok_r (by decide) (ok_r (by decide) ok_nil)) (hE.gr (by decide)) (Nat.le_of_ble_eq_true rfl) (Nat.le_of_ble_eq_true rfl) ?_
  have hw : WFr _ 2 := hw.clr (q := 1)
  refine x_dup hC dX8_init_8 rfl ?_
  refine c_callIN (mc := 1) (ms := 9) (avs := []) (st := [.ref 1, .ref 0]) hC dX8_init_9 nl_8_9 mj_X5_init rfl (t_X5_init (m := 2) (q0 := 1) (by decide) (by decide +kernel) (by decide) hw) (ok_r (by decide) (ok_r (by decide) (ok_r (by decide) ok_nil))) (hE.gr (by decide)) (Nat.le_of_ble_eq_true rfl) ⟨rfl, rfl⟩ ⟨Nat.le_of_ble_eq_true rfl, Nat.le_of_ble_eq_true rfl⟩ ⟨Nat.le_of_ble_eq_true rfl, Nat.le_of_ble_eq_true rfl⟩ (fun sh1 hr1 hp => ?_)
  obtain ⟨rfl, rfl, hw⟩ := hp
  refine W0 (m2 := 3) (k2 := 2) (n2 := 11) rfl rfl rfl ?_
  have hw : WFr _ 3 := hw
  refine c_putF (q := 0) (r := 1) hC hI dX8_init_12 fk_8_10 rfl rfl (fun _ => rfl) (fun _ => rfl) ⟨⟨by decide, by decide⟩, by decide +kernel⟩ ?_
  have hw := hw.put (q := 0) (j := 0) (show 1 < 3 from (by decide))
  refine x_aload_n hC dX8_init_15 (lm 0 rfl) ?_
  refine c_newE (m2 := 4) (q := 3) (k2 := 3) (n2 := 17) (ci := 0) (Nat.zero_add _) rfl rfl rfl hC dX8_init_16 cl_8_16 in_0 ii_0 (by decide) (by decide) hw (ok_r (by decide) (ok_r (by decide) ok_nil)) (hE.gr (by decide)) (Nat.le_of_ble_eq_true rfl) (Nat.le_of_ble_eq_true rfl) ?_
  have hw : WFr _ 4 := hw.clr (q := 3)
  refine x_dup hC dX8_init_19 rfl ?_
  refine c_callIN (mc := 0) (ms := 0) (avs := []) (st := [.ref 3, .ref 0]) hC dX8_init_20 nl_8_18 mj_X0_init rfl (t_X0_init (m := 4) (q0 := 3) (by decide) (by decide +kernel) (by decide) hw) (ok_r (by decide) (ok_r (by decide) (ok_r (by decide) ok_nil))) (hE.gr (by decide)) (Nat.le_of_ble_eq_true rfl) ⟨rfl, rfl⟩ ⟨Nat.le_of_ble_eq_true rfl, Nat.le_of_ble_eq_true rfl⟩ ⟨Nat.le_of_ble_eq_true rfl, Nat.le_of_ble_eq_true rfl⟩ (fun sh1 hr1 hp => ?_)
  obtain ⟨rfl, rfl, hw⟩ := hp
  refine W0 (m2 := 4) (k2 := 3) (n2 := 17) rfl rfl rfl ?_
  have hw : WFr _ 4 := hw
  refine c_putF (q := 0) (r := 3) hC hI dX8_init_23 fk_8_19 rfl rfl (fun _ => rfl) (fun _ => rfl) ⟨⟨by decide, by decide⟩, by decide +kernel⟩ ?_
  have hw := hw.put (q := 0) (j := 1) (show 3 < 4 from (by decide))
  refine x_aload_n hC dX8_init_26 (lm 0 rfl) ?_
  refine c_newE (m2 := 5) (q := 4) (k2 := 4) (n2 := 25) (ci := 7) (Nat.zero_add _) rfl rfl rfl hC dX8_init_27 cl_8_23 in_7 ii_7 (by decide) (by decide) hw (ok_r (by decide) (ok_r (by decide) ok_nil)) (hE.gr (by decide)) (Nat.le_of_ble_eq_true rfl) (Nat.le_of_ble_eq_true rfl) ?_
  have hw : WFr _ 5 := hw.clr (q := 4)
  refine x_dup hC dX8_init_30 rfl ?_
  refine c_callIN (mc := 0) (ms := 0) (avs := []) (st := [.ref 4, .ref 0]) hC dX8_init_31 nl_8_25 mj_X7_init rfl (t_X7_init (m := 5) (q0 := 4) (by decide) (by decide +kernel) (by decide) hw) (ok_r (by decide) (ok_r (by decide) (ok_r (by decide) ok_nil))) (hE.gr (by decide)) (Nat.le_of_ble_eq_true rfl) ⟨rfl, rfl⟩ ⟨Nat.le_of_ble_eq_true rfl, Nat.le_of_ble_eq_true rfl⟩ ⟨Nat.le_of_ble_eq_true rfl, Nat.le_of_ble_eq_true rfl⟩ (fun sh1 hr1 hp => ?_)
  obtain ⟨rfl, rfl, hw⟩ := hp
  refine W0 (m2 := 5) (k2 := 4) (n2 := 25) rfl rfl rfl ?_
  have hw : WFr _ 5 := hw
  refine c_putF (q := 0) (r := 4) hC hI dX8_init_34 fk_8_26 rfl rfl (fun _ => rfl) (fun _ => rfl) ⟨⟨by decide, by decide⟩, by decide +kernel⟩ ?_
  have hw := hw.put (q := 0) (j := 2) (show 4 < 5 from (by decide))
  refine x_aload_n hC dX8_init_37 (lm 0 rfl) ?_
  refine c_newE (m2 := 6) (q := 5) (k2 := 5) (n2 := 28) (ci := 6) (Nat.zero_add _) rfl rfl rfl hC dX8_init_38 cl_8_30 in_6 ii_6 (by decide) (by decide) hw (ok_r (by decide) (ok_r (by decide) ok_nil)) (hE.gr (by decide)) (Nat.le_of_ble_eq_true rfl) (Nat.le_of_ble_eq_true rfl) ?_
  have hw : WFr _ 6 := hw.clr (q := 5)
  refine x_dup hC dX8_init_41 rfl ?_
  refine x_aload_n hC dX8_init_42 (lm 0 rfl) ?_
  refine x_getR (r := 4) hC dX8_init_43 fk_8_26.1 fk_8_26.2.1 fk_8_26.2.2 ⟨⟨by decide, by decide⟩, by decide +kernel⟩ (by decide +kernel) ?_
  refine c_callI (mc := 26) (ms := 225) (avs := [.ref 4]) (st := [.ref 5, .ref 0]) hC dX8_init_46 ml_8_32 mj_X6_init rfl (t_X6_init  (by decide +kernel) hw) (ok_r (by decide) (ok_r (by decide) (ok_r (by decide) ok_nil))) (hE.gr (by decide)) (Nat.le_of_ble_eq_true rfl) ⟨rfl, rfl⟩ ⟨Nat.le_of_ble_eq_true rfl, Nat.le_of_ble_eq_true rfl⟩ ⟨Nat.le_of_ble_eq_true rfl, Nat.le_of_ble_eq_true rfl⟩ (fun sh1 hr1 hp => ?_)
  obtain ⟨rfl, rfl, hw⟩ := hp
  refine W0 (m2 := 32) (k2 := 31) (n2 := 253) rfl rfl rfl ?_
  have hw : WFr _ 32 := hw
  refine c_putF (q := 0) (r := 5) hC hI dX8_init_49 fk_8_35 rfl rfl (fun _ => rfl) (fun _ => rfl) ⟨⟨by decide, by decide⟩, by decide +kernel⟩ ?_
  have hw := hw.put (q := 0) (j := 3) (show 5 < 32 from (by decide))
  refine x_aload_n hC dX8_init_52 (lm 0 rfl) ?_
  refine x_iconst hC dX8_init_53 ic_4 ?_
  refine c_newRE (N := 4) (m2 := 33) (q := 32) (k2 := 32) (n2 := 257) (ci := 3) (Nat.zero_add _) rfl rfl rfl hC dX8_init_54 cl_8_39 (by decide) (by decide) (by decide) (by decide) (by decide) hw (ok_r (by decide) (ok_r (by decide) ok_nil)) (hE.gr (by decide)) (Nat.le_of_ble_eq_true rfl) (Nat.le_of_ble_eq_true rfl) ?_
  have hw : WFr _ 33 := hw.clr (q := 32)
  refine c_putF (q := 0) (r := 32) hC hI dX8_init_57 fk_8_41 rfl rfl (fun _ => rfl) (fun _ => rfl) ⟨⟨by decide, by decide⟩, by decide +kernel⟩ ?_
  have hw := hw.put (q := 0) (j := 4) (show 32 < 33 from (by decide))
  refine x_aload_n hC dX8_init_60 (lm 0 rfl) ?_
  refine x_iconst hC dX8_init_61 ic_4 ?_
  refine c_newRE (N := 4) (m2 := 34) (q := 33) (k2 := 33) (n2 := 261) (ci := 1) (Nat.zero_add _) rfl rfl rfl hC dX8_init_62 cl_8_45 (by decide) (by decide) (by decide) (by decide) (by decide) hw (ok_r (by decide) (ok_r (by decide) ok_nil)) (hE.gr (by decide)) (Nat.le_of_ble_eq_true rfl) (Nat.le_of_ble_eq_true rfl) ?_
  have hw : WFr _ 34 := hw.clr (q := 33)
  refine c_putF (q := 0) (r := 33) hC hI dX8_init_65 fk_8_47 rfl rfl (fun _ => rfl) (fun _ => rfl) ⟨⟨by decide, by decide⟩, by decide +kernel⟩ ?_
  have hw := hw.put (q := 0) (j := 5) (show 33 < 34 from (by decide))
  refine x_iconst hC dX8_init_68 ic_0 ?_
  refine x_istore_n (lv' := [(1, .int 0), (0, .ref 0)]) hC dX8_init_69 (by decide) rfl ?_
  refine x_iload_n hC dX8_init_70 (lm 0 rfl) ?_
  refine x_iconst hC dX8_init_71 ic_4 ?_
  refine x_icmp_ge (tgt := 115) hC dX8_init_72 (by decide) (fun hc => ?_) (fun hc => ?_)
  · exact absurd hc (by decide)
  refine x_aload_n hC dX8_init_75 (lm 1 rfl) ?_
  refine x_getR (r := 32) hC dX8_init_76 fk_8_41.1 fk_8_41.2.1 fk_8_41.2.2 ⟨⟨by decide, by decide⟩, by decide +kernel⟩ (by decide +kernel) ?_
  refine x_iload_n hC dX8_init_79 (lm 0 rfl) ?_
  refine c_newE (m2 := 35) (q := 34) (k2 := 34) (n2 := 278) (ci := 3) (Nat.zero_add _) rfl rfl rfl hC dX8_init_80 cl_8_39 in_3 ii_3 (by decide) (by decide) hw (ok_i (ok_r (by decide) (ok_i (ok_r (by decide) ok_nil)))) (hE.gr (by decide)) (Nat.le_of_ble_eq_true rfl) (Nat.le_of_ble_eq_true rfl) ?_
  have hw : WFr _ 35 := hw.clr (q := 34)
  refine x_dup hC dX8_init_83 rfl ?_
  refine x_aload_n hC dX8_init_84 (lm 1 rfl) ?_
  refine x_getR (r := 4) hC dX8_init_85 fk_8_26.1 fk_8_26.2.1 fk_8_26.2.2 ⟨⟨by decide, by decide⟩, by decide +kernel⟩ (by decide +kernel) ?_
  refine c_callI (mc := 6) (ms := 112) (avs := [.ref 4]) (st := [.ref 34, .int 0, .ref 32]) hC dX8_init_88 ml_8_51 mj_X3_init rfl (t_X3_init (m := 35) (q0 := 34) (qT := 4) (by decide) (by decide +kernel) (by decide) (by decide) hw) (ok_i (ok_r (by decide) (ok_r (by decide) (ok_i (ok_r (by decide) ok_nil))))) (hE.gr (by decide)) (Nat.le_of_ble_eq_true rfl) ⟨rfl, rfl⟩ ⟨Nat.le_of_ble_eq_true rfl, Nat.le_of_ble_eq_true rfl⟩ ⟨Nat.le_of_ble_eq_true rfl, Nat.le_of_ble_eq_true rfl⟩ (fun sh1 hr1 hp => ?_)
  obtain ⟨rfl, rfl, hw⟩ := hp
  refine W0 (m2 := 41) (k2 := 40) (n2 := 390) rfl rfl rfl ?_
  have hw : WFr _ 41 := hw
  refine c_aast (z := 0) (ci := 3) (len := 4) hC dX8_init_91 (by decide) ⟨⟨by decide, by decide⟩, by decide +kernel⟩ ⟨⟨by decide, by decide⟩, by decide +kernel⟩ (vi (by decide)) (by decide) ?_
  have hw := hw.put (q := 32) (j := 0) (show 34 < 41 from (by decide))
  refine x_aload_n hC dX8_init_92 (lm 1 rfl) ?_
  refine x_getR (r := 33) hC dX8_init_93 fk_8_47.1 fk_8_47.2.1 fk_8_47.2.2 ⟨⟨by decide, by decide⟩, by decide +kernel⟩ (by decide +kernel) ?_
  refine x_iload_n hC dX8_init_96 (lm 0 rfl) ?_
  refine c_newE (m2 := 42) (q := 41) (k2 := 41) (n2 := 402) (ci := 1) (Nat.zero_add _) rfl rfl rfl hC dX8_init_97 cl_8_45 in_1 ii_1 (by decide) (by decide) hw (ok_i (ok_r (by decide) (ok_i (ok_r (by decide) ok_nil)))) (hE.gr (by decide)) (Nat.le_of_ble_eq_true rfl) (Nat.le_of_ble_eq_true rfl) ?_
  have hw : WFr _ 42 := hw.clr (q := 41)
  refine x_dup hC dX8_init_100 rfl ?_
  refine x_aload_n hC dX8_init_101 (lm 1 rfl) ?_
  refine x_getR (r := 4) hC dX8_init_102 fk_8_26.1 fk_8_26.2.1 fk_8_26.2.2 ⟨⟨by decide, by decide⟩, by decide +kernel⟩ (by decide +kernel) ?_
  refine c_callI (mc := 3) (ms := 28) (avs := [.ref 4]) (st := [.ref 41, .int 0, .ref 33]) hC dX8_init_105 ml_8_52 mj_X1_init rfl (t_X1_init (m := 42) (q0 := 41) (qT := 4) (by decide) (by decide +kernel) (by decide) (by decide) hw) (ok_i (ok_r (by decide) (ok_r (by decide) (ok_i (ok_r (by decide) ok_nil))))) (hE.gr (by decide)) (Nat.le_of_ble_eq_true rfl) ⟨rfl, rfl⟩ ⟨Nat.le_of_ble_eq_true rfl, Nat.le_of_ble_eq_true rfl⟩ ⟨Nat.le_of_ble_eq_true rfl, Nat.le_of_ble_eq_true rfl⟩ (fun sh1 hr1 hp => ?_)
  obtain ⟨rfl, rfl, hw⟩ := hp
  refine W0 (m2 := 45) (k2 := 44) (n2 := 430) rfl rfl rfl ?_
  have hw : WFr _ 45 := hw
  refine c_aast (z := 0) (ci := 1) (len := 4) hC dX8_init_108 (by decide) ⟨⟨by decide, by decide⟩, by decide +kernel⟩ ⟨⟨by decide, by decide⟩, by decide +kernel⟩ (vi (by decide)) (by decide) ?_
  have hw := hw.put (q := 33) (j := 0) (show 41 < 45 from (by decide))
  refine x_iinc (u := 1) (lv' := [(1, .int 1), (0, .ref 0)]) hC dX8_init_109 (lm 0 rfl) (by decide) (by decide) rfl ?_
  refine x_goto (tgt := 70) hC dX8_init_112 (by decide) ?_
  refine x_iload_n hC dX8_init_70 (lm 0 rfl) ?_
  refine x_iconst hC dX8_init_71 ic_4 ?_
  refine x_icmp_ge (tgt := 115) hC dX8_init_72 (by decide) (fun hc => ?_) (fun hc => ?_)
  · exact absurd hc (by decide)
  refine x_aload_n hC dX8_init_75 (lm 1 rfl) ?_
  refine x_getR (r := 32) hC dX8_init_76 fk_8_41.1 fk_8_41.2.1 fk_8_41.2.2 ⟨⟨by decide, by decide⟩, by decide +kernel⟩ (by decide +kernel) ?_
  refine x_iload_n hC dX8_init_79 (lm 0 rfl) ?_
  refine c_newE (m2 := 46) (q := 45) (k2 := 45) (n2 := 447) (ci := 3) (Nat.zero_add _) rfl rfl rfl hC dX8_init_80 cl_8_39 in_3 ii_3 (by decide) (by decide) hw (ok_i (ok_r (by decide) (ok_i (ok_r (by decide) ok_nil)))) (hE.gr (by decide)) (Nat.le_of_ble_eq_true rfl) (Nat.le_of_ble_eq_true rfl) ?_
  have hw : WFr _ 46 := hw.clr (q := 45)
  refine x_dup hC dX8_init_83 rfl ?_
  refine x_aload_n hC dX8_init_84 (lm 1 rfl) ?_
  refine x_getR (r := 4) hC dX8_init_85 fk_8_26.1 fk_8_26.2.1 fk_8_26.2.2 ⟨⟨by decide, by decide⟩, by decide +kernel⟩ (by decide +kernel) ?_
  refine c_callI (mc := 6) (ms := 112) (avs := [.ref 4]) (st := [.ref 45, .int 1, .ref 32]) hC dX8_init_88 ml_8_51 mj_X3_init rfl (t_X3_init (m := 46) (q0 := 45) (qT := 4) (by decide) (by decide +kernel) (by decide) (by decide) hw) (ok_i (ok_r (by decide) (ok_r (by decide) (ok_i (ok_r (by decide) ok_nil))))) (hE.gr (by decide)) (Nat.le_of_ble_eq_true rfl) ⟨rfl, rfl⟩ ⟨Nat.le_of_ble_eq_true rfl, Nat.le_of_ble_eq_true rfl⟩ ⟨Nat.le_of_ble_eq_true rfl, Nat.le_of_ble_eq_true rfl⟩ (fun sh1 hr1 hp => ?_)
  obtain ⟨rfl, rfl, hw⟩ := hp
  refine W0 (m2 := 52) (k2 := 51) (n2 := 559) rfl rfl rfl ?_
  have hw : WFr _ 52 := hw
  refine c_aast (z := 1) (ci := 3) (len := 4) hC dX8_init_91 (by decide) ⟨⟨by decide, by decide⟩, by decide +kernel⟩ ⟨⟨by decide, by decide⟩, by decide +kernel⟩ (vi (by decide)) (by decide) ?_
  have hw := hw.put (q := 32) (j := 1) (show 45 < 52 from (by decide))
  refine x_aload_n hC dX8_init_92 (lm 1 rfl) ?_
  refine x_getR (r := 33) hC dX8_init_93 fk_8_47.1 fk_8_47.2.1 fk_8_47.2.2 ⟨⟨by decide, by decide⟩, by decide +kernel⟩ (by decide +kernel) ?_
  refine x_iload_n hC dX8_init_96 (lm 0 rfl) ?_
  refine c_newE (m2 := 53) (q := 52) (k2 := 52) (n2 := 571) (ci := 1) (Nat.zero_add _) rfl rfl rfl hC dX8_init_97 cl_8_45 in_1 ii_1 (by decide) (by decide) hw (ok_i (ok_r (by decide) (ok_i (ok_r (by decide) ok_nil)))) (hE.gr (by decide)) (Nat.le_of_ble_eq_true rfl) (Nat.le_of_ble_eq_true rfl) ?_
  have hw : WFr _ 53 := hw.clr (q := 52)
  refine x_dup hC dX8_init_100 rfl ?_
  refine x_aload_n hC dX8_init_101 (lm 1 rfl) ?_
  refine x_getR (r := 4) hC dX8_init_102 fk_8_26.1 fk_8_26.2.1 fk_8_26.2.2 ⟨⟨by decide, by decide⟩, by decide +kernel⟩ (by decide +kernel) ?_
  refine c_callI (mc := 3) (ms := 28) (avs := [.ref 4]) (st := [.ref 52, .int 1, .ref 33]) hC dX8_init_105 ml_8_52 mj_X1_init rfl (t_X1_init (m := 53) (q0 := 52) (qT := 4) (by decide) (by decide +kernel) (by decide) (by decide) hw) (ok_i (ok_r (by decide) (ok_r (by decide) (ok_i (ok_r (by decide) ok_nil))))) (hE.gr (by decide)) (Nat.le_of_ble_eq_true rfl) ⟨rfl, rfl⟩ ⟨Nat.le_of_ble_eq_true rfl, Nat.le_of_ble_eq_true rfl⟩ ⟨Nat.le_of_ble_eq_true rfl, Nat.le_of_ble_eq_true rfl⟩ (fun sh1 hr1 hp => ?_)
  obtain ⟨rfl, rfl, hw⟩ := hp
  refine W0 (m2 := 56) (k2 := 55) (n2 := 599) rfl rfl rfl ?_
  have hw : WFr _ 56 := hw
  refine c_aast (z := 1) (ci := 1) (len := 4) hC dX8_init_108 (by decide) ⟨⟨by decide, by decide⟩, by decide +kernel⟩ ⟨⟨by decide, by decide⟩, by decide +kernel⟩ (vi (by decide)) (by decide) ?_
  have hw := hw.put (q := 33) (j := 1) (show 52 < 56 from (by decide))
  refine x_iinc (u := 2) (lv' := [(1, .int 2), (0, .ref 0)]) hC dX8_init_109 (lm 0 rfl) (by decide) (by decide) rfl ?_
  refine x_goto (tgt := 70) hC dX8_init_112 (by decide) ?_
  refine x_iload_n hC dX8_init_70 (lm 0 rfl) ?_
  refine x_iconst hC dX8_init_71 ic_4 ?_
  refine x_icmp_ge (tgt := 115) hC dX8_init_72 (by decide) (fun hc => ?_) (fun hc => ?_)
  · exact absurd hc (by decide)
  refine x_aload_n hC dX8_init_75 (lm 1 rfl) ?_
  refine x_getR (r := 32) hC dX8_init_76 fk_8_41.1 fk_8_41.2.1 fk_8_41.2.2 ⟨⟨by decide, by decide⟩, by decide +kernel⟩ (by decide +kernel) ?_
  refine x_iload_n hC dX8_init_79 (lm 0 rfl) ?_
  refine c_newE (m2 := 57) (q := 56) (k2 := 56) (n2 := 616) (ci := 3) (Nat.zero_add _) rfl rfl rfl hC dX8_init_80 cl_8_39 in_3 ii_3 (by decide) (by decide) hw (ok_i (ok_r (by decide) (ok_i (ok_r (by decide) ok_nil)))) (hE.gr (by decide)) (Nat.le_of_ble_eq_true rfl) (Nat.le_of_ble_eq_true rfl) ?_
  have hw : WFr _ 57 := hw.clr (q := 56)
  refine x_dup hC dX8_init_83 rfl ?_
  refine x_aload_n hC dX8_init_84 (lm 1 rfl) ?_
  refine x_getR (r := 4) hC dX8_init_85 fk_8_26.1 fk_8_26.2.1 fk_8_26.2.2 ⟨⟨by decide, by decide⟩, by decide +kernel⟩ (by decide +kernel) ?_
  refine c_callI (mc := 6) (ms := 112) (avs := [.ref 4]) (st := [.ref 56, .int 2, .ref 32]) hC dX8_init_88 ml_8_51 mj_X3_init rfl (t_X3_init (m := 57) (q0 := 56) (qT := 4) (by decide) (by decide +kernel) (by decide) (by decide) hw) (ok_i (ok_r (by decide) (ok_r (by decide) (ok_i (ok_r (by decide) ok_nil))))) (hE.gr (by decide)) (Nat.le_of_ble_eq_true rfl) ⟨rfl, rfl⟩ ⟨Nat.le_of_ble_eq_true rfl, Nat.le_of_ble_eq_true rfl⟩ ⟨Nat.le_of_ble_eq_true rfl, Nat.le_of_ble_eq_true rfl⟩ (fun sh1 hr1 hp => ?_)
  obtain ⟨rfl, rfl, hw⟩ := hp
  refine W0 (m2 := 63) (k2 := 62) (n2 := 728) rfl rfl rfl ?_
  have hw : WFr _ 63 := hw
  refine c_aast (z := 2) (ci := 3) (len := 4) hC dX8_init_91 (by decide) ⟨⟨by decide, by decide⟩, by decide +kernel⟩ ⟨⟨by decide, by decide⟩, by decide +kernel⟩ (vi (by decide)) (by decide) ?_
  have hw := hw.put (q := 32) (j := 2) (show 56 < 63 from (by decide))
  refine x_aload_n hC dX8_init_92 (lm 1 rfl) ?_
  refine x_getR (r := 33) hC dX8_init_93 fk_8_47.1 fk_8_47.2.1 fk_8_47.2.2 ⟨⟨by decide, by decide⟩, by decide +kernel⟩ (by decide +kernel) ?_
  refine x_iload_n hC dX8_init_96 (lm 0 rfl) ?_
  refine c_newE (m2 := 64) (q := 63) (k2 := 63) (n2 := 740) (ci := 1) (Nat.zero_add _) rfl rfl rfl hC dX8_init_97 cl_8_45 in_1 ii_1 (by decide) (by decide) hw (ok_i (ok_r (by decide) (ok_i (ok_r (by decide) ok_nil)))) (hE.gr (by decide)) (Nat.le_of_ble_eq_true rfl) (Nat.le_of_ble_eq_true rfl) ?_
  have hw : WFr _ 64 := hw.clr (q := 63)
  refine x_dup hC dX8_init_100 rfl ?_
  refine x_aload_n hC dX8_init_101 (lm 1 rfl) ?_
  refine x_getR (r := 4) hC dX8_init_102 fk_8_26.1 fk_8_26.2.1 fk_8_26.2.2 ⟨⟨by decide, by decide⟩, by decide +kernel⟩ (by decide +kernel) ?_
  refine c_callI (mc := 3) (ms := 28) (avs := [.ref 4]) (st := [.ref 63, .int 2, .ref 33]) hC dX8_init_105 ml_8_52 mj_X1_init rfl (t_X1_init (m := 64) (q0 := 63) (qT := 4) (by decide) (by decide +kernel) (by decide) (by decide) hw) (ok_i (ok_r (by decide) (ok_r (by decide) (ok_i (ok_r (by decide) ok_nil))))) (hE.gr (by decide)) (Nat.le_of_ble_eq_true rfl) ⟨rfl, rfl⟩ ⟨Nat.le_of_ble_eq_true rfl, Nat.le_of_ble_eq_true rfl⟩ ⟨Nat.le_of_ble_eq_true rfl, Nat.le_of_ble_eq_true rfl⟩ (fun sh1 hr1 hp => ?_)
  obtain ⟨rfl, rfl, hw⟩ := hp
  refine W0 (m2 := 67) (k2 := 66) (n2 := 768) rfl rfl rfl ?_
  have hw : WFr _ 67 := hw
  refine c_aast (z := 2) (ci := 1) (len := 4) hC dX8_init_108 (by decide) ⟨⟨by decide, by decide⟩, by decide +kernel⟩ ⟨⟨by decide, by decide⟩, by decide +kernel⟩ (vi (by decide)) (by decide) ?_
  have hw := hw.put (q := 33) (j := 2) (show 63 < 67 from (by decide))
  refine x_iinc (u := 3) (lv' := [(1, .int 3), (0, .ref 0)]) hC dX8_init_109 (lm 0 rfl) (by decide) (by decide) rfl ?_
  refine x_goto (tgt := 70) hC dX8_init_112 (by decide) ?_
  refine x_iload_n hC dX8_init_70 (lm 0 rfl) ?_
  refine x_iconst hC dX8_init_71 ic_4 ?_
  refine x_icmp_ge (tgt := 115) hC dX8_init_72 (by decide) (fun hc => ?_) (fun hc => ?_)
  · exact absurd hc (by decide)
  refine x_aload_n hC dX8_init_75 (lm 1 rfl) ?_
  refine x_getR (r := 32) hC dX8_init_76 fk_8_41.1 fk_8_41.2.1 fk_8_41.2.2 ⟨⟨by decide, by decide⟩, by decide +kernel⟩ (by decide +kernel) ?_
  refine x_iload_n hC dX8_init_79 (lm 0 rfl) ?_
  refine c_newE (m2 := 68) (q := 67) (k2 := 67) (n2 := 785) (ci := 3) (Nat.zero_add _) rfl rfl rfl hC dX8_init_80 cl_8_39 in_3 ii_3 (by decide) (by decide) hw (ok_i (ok_r (by decide) (ok_i (ok_r (by decide) ok_nil)))) (hE.gr (by decide)) (Nat.le_of_ble_eq_true rfl) (Nat.le_of_ble_eq_true rfl) ?_
  have hw : WFr _ 68 := hw.clr (q := 67)
  refine x_dup hC dX8_init_83 rfl ?_
  refine x_aload_n hC dX8_init_84 (lm 1 rfl) ?_
  refine x_getR (r := 4) hC dX8_init_85 fk_8_26.1 fk_8_26.2.1 fk_8_26.2.2 ⟨⟨by decide, by decide⟩, by decide +kernel⟩ (by decide +kernel) ?_
  refine c_callI (mc := 6) (ms := 112) (avs := [.ref 4]) (st := [.ref 67, .int 3, .ref 32]) hC dX8_init_88 ml_8_51 mj_X3_init rfl (t_X3_init (m := 68) (q0 := 67) (qT := 4) (by decide) (by decide +kernel) (by decide) (by decide) hw) (ok_i (ok_r (by decide) (ok_r (by decide) (ok_i (ok_r (by decide) ok_nil))))) (hE.gr (by decide)) (Nat.le_of_ble_eq_true rfl) ⟨rfl, rfl⟩ ⟨Nat.le_of_ble_eq_true rfl, Nat.le_of_ble_eq_true rfl⟩ ⟨Nat.le_of_ble_eq_true rfl, Nat.le_of_ble_eq_true rfl⟩ (fun sh1 hr1 hp => ?_)
  obtain ⟨rfl, rfl, hw⟩ := hp
  refine W0 (m2 := 74) (k2 := 73) (n2 := 897) rfl rfl rfl ?_
  have hw : WFr _ 74 := hw
  refine c_aast (z := 3) (ci := 3) (len := 4) hC dX8_init_91 (by decide) ⟨⟨by decide, by decide⟩, by decide +kernel⟩ ⟨⟨by decide, by decide⟩, by decide +kernel⟩ (vi (by decide)) (by decide) ?_
  have hw := hw.put (q := 32) (j := 3) (show 67 < 74 from (by decide))
  refine x_aload_n hC dX8_init_92 (lm 1 rfl) ?_
  refine x_getR (r := 33) hC dX8_init_93 fk_8_47.1 fk_8_47.2.1 fk_8_47.2.2 ⟨⟨by decide, by decide⟩, by decide +kernel⟩ (by decide +kernel) ?_
  refine x_iload_n hC dX8_init_96 (lm 0 rfl) ?_
  refine c_newE (m2 := 75) (q := 74) (k2 := 74) (n2 := 909) (ci := 1) (Nat.zero_add _) rfl rfl rfl hC dX8_init_97 cl_8_45 in_1 ii_1 (by decide) (by decide) hw (ok_i (ok_r (by decide) (ok_i (ok_r (by decide) ok_nil)))) (hE.gr (by decide)) (Nat.le_of_ble_eq_true rfl) (Nat.le_of_ble_eq_true rfl) ?_
  have hw : WFr _ 75 := hw.clr (q := 74)
  refine x_dup hC dX8_init_100 rfl ?_
  refine x_aload_n hC dX8_init_101 (lm 1 rfl) ?_
  refine x_getR (r := 4) hC dX8_init_102 fk_8_26.1 fk_8_26.2.1 fk_8_26.2.2 ⟨⟨by decide, by decide⟩, by decide +kernel⟩ (by decide +kernel) ?_
  refine c_callI (mc := 3) (ms := 28) (avs := [.ref 4]) (st := [.ref 74, .int 3, .ref 33]) hC dX8_init_105 ml_8_52 mj_X1_init rfl (t_X1_init (m := 75) (q0 := 74) (qT := 4) (by decide) (by decide +kernel) (by decide) (by decide) hw) (ok_i (ok_r (by decide) (ok_r (by decide) (ok_i (ok_r (by decide) ok_nil))))) (hE.gr (by decide)) (Nat.le_of_ble_eq_true rfl) ⟨rfl, rfl⟩ ⟨Nat.le_of_ble_eq_true rfl, Nat.le_of_ble_eq_true rfl⟩ ⟨Nat.le_of_ble_eq_true rfl, Nat.le_of_ble_eq_true rfl⟩ (fun sh1 hr1 hp => ?_)
  obtain ⟨rfl, rfl, hw⟩ := hp
  refine W0 (m2 := 78) (k2 := 77) (n2 := 937) rfl rfl rfl ?_
  have hw : WFr _ 78 := hw
  refine c_aast (z := 3) (ci := 1) (len := 4) hC dX8_init_108 (by decide) ⟨⟨by decide, by decide⟩, by decide +kernel⟩ ⟨⟨by decide, by decide⟩, by decide +kernel⟩ (vi (by decide)) (by decide) ?_
  have hw := hw.put (q := 33) (j := 3) (show 74 < 78 from (by decide))
  refine x_iinc (u := 4) (lv' := [(1, .int 4), (0, .ref 0)]) hC dX8_init_109 (lm 0 rfl) (by decide) (by decide) rfl ?_
  refine x_goto (tgt := 70) hC dX8_init_112 (by decide) ?_
  refine x_iload_n hC dX8_init_70 (lm 0 rfl) ?_
  refine x_iconst hC dX8_init_71 ic_4 ?_
  refine x_icmp_ge (tgt := 115) hC dX8_init_72 (by decide) (fun hc => ?_) (fun hc => ?_)
  rotate_left
  · exact absurd hc (by decide)
  exact c_vret hC hE dX8_init_115 ⟨rfl, rfl, hw⟩
theorem dX9_init_0 : decode cX9_init 0 = .ok (.aload_n 0, 1) := by decide +kernel
theorem dX9_init_1 : decode cX9_init 1 = .ok (.invokespecial 1, 3) := by decide +kernel
theorem dX9_init_4 : decode cX9_init 4 = .ok (.aload_n 0, 1) := by decide +kernel
theorem dX9_init_5 : decode cX9_init 5 = .ok (.bipush 9, 2) := by decide +kernel
theorem dX9_init_7 : decode cX9_init 7 = .ok (.newarray .int, 2) := by decide +kernel
theorem dX9_init_9 : decode cX9_init 9 = .ok (.putfield 7, 3) := by decide +kernel
theorem dX9_init_12 : decode cX9_init 12 = .ok (.aload_n 0, 1) := by decide +kernel
theorem dX9_init_13 : decode cX9_init 13 = .ok (.bipush 7, 2) := by decide +kernel
theorem dX9_init_15 : decode cX9_init 15 = .ok (.newarray .int, 2) := by decide +kernel
theorem dX9_init_17 : decode cX9_init 17 = .ok (.putfield 13, 3) := by decide +kernel
theorem dX9_init_20 : decode cX9_init 20 = .ok (.aload_n 0, 1) := by decide +kernel
theorem dX9_init_21 : decode cX9_init 21 = .ok (.iconst 4, 1) := by decide +kernel
theorem dX9_init_22 : decode cX9_init 22 = .ok (.newarray .int, 2) := by decide +kernel
theorem dX9_init_24 : decode cX9_init 24 = .ok (.putfield 16, 3) := by decide +kernel
theorem dX9_init_27 : decode cX9_init 27 = .ok (.aload_n 0, 1) := by decide +kernel
theorem dX9_init_28 : decode cX9_init 28 = .ok (.iconst 4, 1) := by decide +kernel
theorem dX9_init_29 : decode cX9_init 29 = .ok (.newarray .int, 2) := by decide +kernel
theorem dX9_init_31 : decode cX9_init 31 = .ok (.putfield 19, 3) := by decide +kernel
theorem dX9_init_34 : decode cX9_init 34 = .ok (.aload_n 0, 1) := by decide +kernel
theorem dX9_init_35 : decode cX9_init 35 = .ok (.iconst 4, 1) := by decide +kernel
theorem dX9_init_36 : decode cX9_init 36 = .ok (.newarray .int, 2) := by decide +kernel
theorem dX9_init_38 : decode cX9_init 38 = .ok (.putfield 22, 3) := by decide +kernel
theorem dX9_init_41 : decode cX9_init 41 = .ok (.aload_n 0, 1) := by decide +kernel
theorem dX9_init_42 : decode cX9_init 42 = .ok (.iconst 4, 1) := by decide +kernel
theorem dX9_init_43 : decode cX9_init 43 = .ok (.newarray .int, 2) := by decide +kernel
theorem dX9_init_45 : decode cX9_init 45 = .ok (.putfield 25, 3) := by decide +kernel
theorem dX9_init_48 : decode cX9_init 48 = .ok (.aload_n 0, 1) := by decide +kernel
theorem dX9_init_49 : decode cX9_init 49 = .ok (.iconst 4, 1) := by decide +kernel
theorem dX9_init_50 : decode cX9_init 50 = .ok (.newarray .int, 2) := by decide +kernel
theorem dX9_init_52 : decode cX9_init 52 = .ok (.putfield 28, 3) := by decide +kernel
theorem dX9_init_55 : decode cX9_init 55 = .ok (.aload_n 0, 1) := by decide +kernel
theorem dX9_init_56 : decode cX9_init 56 = .ok (.iconst 4, 1) := by decide +kernel
theorem dX9_init_57 : decode cX9_init 57 = .ok (.newarray .int, 2) := by decide +kernel
theorem dX9_init_59 : decode cX9_init 59 = .ok (.putfield 31, 3) := by decide +kernel
theorem dX9_init_62 : decode cX9_init 62 = .ok (.aload_n 0, 1) := by decide +kernel
theorem dX9_init_63 : decode cX9_init 63 = .ok (.iconst 4, 1) := by decide +kernel
theorem dX9_init_64 : decode cX9_init 64 = .ok (.newarray .int, 2) := by decide +kernel
theorem dX9_init_66 : decode cX9_init 66 = .ok (.putfield 34, 3) := by decide +kernel
theorem dX9_init_69 : decode cX9_init 69 = .ok (.aload_n 0, 1) := by decide +kernel
theorem dX9_init_70 : decode cX9_init 70 = .ok (.iconst 4, 1) := by decide +kernel
theorem dX9_init_71 : decode cX9_init 71 = .ok (.newarray .boolean, 2) := by decide +kernel
theorem dX9_init_73 : decode cX9_init 73 = .ok (.putfield 37, 3) := by decide +kernel
theorem dX9_init_76 : decode cX9_init 76 = .ok (.aload_n 0, 1) := by decide +kernel
theorem dX9_init_77 : decode cX9_init 77 = .ok (.iconst 4, 1) := by decide +kernel
theorem dX9_init_78 : decode cX9_init 78 = .ok (.newarray .boolean, 2) := by decide +kernel
theorem dX9_init_80 : decode cX9_init 80 = .ok (.putfield 41, 3) := by decide +kernel
theorem dX9_init_83 : decode cX9_init 83 = .ok (.aload_n 0, 1) := by decide +kernel
theorem dX9_init_84 : decode cX9_init 84 = .ok (.iconst 4, 1) := by decide +kernel
theorem dX9_init_85 : decode cX9_init 85 = .ok (.newarray .boolean, 2) := by decide +kernel
theorem dX9_init_87 : decode cX9_init 87 = .ok (.putfield 44, 3) := by decide +kernel
theorem dX9_init_90 : decode cX9_init 90 = .ok (.aload_n 0, 1) := by decide +kernel
theorem dX9_init_91 : decode cX9_init 91 = .ok (.iconst 4, 1) := by decide +kernel
theorem dX9_init_92 : decode cX9_init 92 = .ok (.newarray .int, 2) := by decide +kernel
theorem dX9_init_94 : decode cX9_init 94 = .ok (.putfield 47, 3) := by decide +kernel
theorem dX9_init_97 : decode cX9_init 97 = .ok (.aload_n 0, 1) := by decide +kernel
theorem dX9_init_98 : decode cX9_init 98 = .ok (.iconst 4, 1) := by decide +kernel
theorem dX9_init_99 : decode cX9_init 99 = .ok (.newarray .int, 2) := by decide +kernel
theorem dX9_init_101 : decode cX9_init 101 = .ok (.putfield 50, 3) := by decide +kernel
theorem dX9_init_104 : decode cX9_init 104 = .ok (.aload_n 0, 1) := by decide +kernel
theorem dX9_init_105 : decode cX9_init 105 = .ok (.bipush 96, 2) := by decide +kernel
theorem dX9_init_107 : decode cX9_init 107 = .ok (.newarray .int, 2) := by decide +kernel
theorem dX9_init_109 : decode cX9_init 109 = .ok (.putfield 53, 3) := by decide +kernel
theorem dX9_init_112 : decode cX9_init 112 = .ok (.aload_n 0, 1) := by decide +kernel
theorem dX9_init_113 : decode cX9_init 113 = .ok (.bipush 96, 2) := by decide +kernel
theorem dX9_init_115 : decode cX9_init 115 = .ok (.newarray .int, 2) := by decide +kernel
theorem dX9_init_117 : decode cX9_init 117 = .ok (.putfield 56, 3) := by decide +kernel
theorem dX9_init_120 : decode cX9_init 120 = .ok (.aload_n 0, 1) := by decide +kernel
theorem dX9_init_121 : decode cX9_init 121 = .ok (.sipush 256, 3) := by decide +kernel
theorem dX9_init_124 : decode cX9_init 124 = .ok (.newarray .int, 2) := by decide +kernel
theorem dX9_init_126 : decode cX9_init 126 = .ok (.putfield 59, 3) := by decide +kernel
theorem dX9_init_129 : decode cX9_init 129 = .ok (.aload_n 0, 1) := by decide +kernel
theorem dX9_init_130 : decode cX9_init 130 = .ok (.sipush 256, 3) := by decide +kernel
theorem dX9_init_133 : decode cX9_init 133 = .ok (.newarray .int, 2) := by decide +kernel
theorem dX9_init_135 : decode cX9_init 135 = .ok (.putfield 62, 3) := by decide +kernel
theorem dX9_init_138 : decode cX9_init 138 = .ok (.aload_n 0, 1) := by decide +kernel
theorem dX9_init_139 : decode cX9_init 139 = .ok (.sipush 256, 3) := by decide +kernel
theorem dX9_init_142 : decode cX9_init 142 = .ok (.newarray .int, 2) := by decide +kernel
theorem dX9_init_144 : decode cX9_init 144 = .ok (.putfield 65, 3) := by decide +kernel
theorem dX9_init_147 : decode cX9_init 147 = .ok (.aload_n 0, 1) := by decide +kernel
theorem dX9_init_148 : decode cX9_init 148 = .ok (.sipush 256, 3) := by decide +kernel
theorem dX9_init_151 : decode cX9_init 151 = .ok (.newarray .boolean, 2) := by decide +kernel
theorem dX9_init_153 : decode cX9_init 153 = .ok (.putfield 68, 3) := by decide +kernel
theorem dX9_init_156 : decode cX9_init 156 = .ok (.aload_n 0, 1) := by decide +kernel
theorem dX9_init_157 : decode cX9_init 157 = .ok (.iconst 4, 1) := by decide +kernel
theorem dX9_init_158 : decode cX9_init 158 = .ok (.newarray .boolean, 2) := by decide +kernel
theorem dX9_init_160 : decode cX9_init 160 = .ok (.putfield 71, 3) := by decide +kernel
theorem dX9_init_163 : decode cX9_init 163 = .ok (.aload_n 0, 1) := by decide +kernel
theorem dX9_init_164 : decode cX9_init 164 = .ok (.iconst 4, 1) := by decide +kernel
theorem dX9_init_165 : decode cX9_init 165 = .ok (.newarray .int, 2) := by decide +kernel
theorem dX9_init_167 : decode cX9_init 167 = .ok (.putfield 74, 3) := by decide +kernel
theorem dX9_init_170 : decode cX9_init 170 = .ok (.aload_n 0, 1) := by decide +kernel
theorem dX9_init_171 : decode cX9_init 171 = .ok (.iconst 4, 1) := by decide +kernel
theorem dX9_init_172 : decode cX9_init 172 = .ok (.newarray .int, 2) := by decide +kernel
theorem dX9_init_174 : decode cX9_init 174 = .ok (.putfield 77, 3) := by decide +kernel
theorem dX9_init_177 : decode cX9_init 177 = .ok (.aload_n 0, 1) := by decide +kernel
theorem dX9_init_178 : decode cX9_init 178 = .ok (.iconst 4, 1) := by decide +kernel
theorem dX9_init_179 : decode cX9_init 179 = .ok (.newarray .int, 2) := by decide +kernel
theorem dX9_init_181 : decode cX9_init 181 = .ok (.putfield 80, 3) := by decide +kernel
theorem dX9_init_184 : decode cX9_init 184 = .ok (.aload_n 0, 1) := by decide +kernel
theorem dX9_init_185 : decode cX9_init 185 = .ok (.iconst 4, 1) := by decide +kernel
theorem dX9_init_186 : decode cX9_init 186 = .ok (.newarray .int, 2) := by decide +kernel
theorem dX9_init_188 : decode cX9_init 188 = .ok (.putfield 83, 3) := by decide +kernel
theorem dX9_init_191 : decode cX9_init 191 = .ok (.aload_n 0, 1) := by decide +kernel
theorem dX9_init_192 : decode cX9_init 192 = .ok (.iconst 4, 1) := by decide +kernel
theorem dX9_init_193 : decode cX9_init 193 = .ok (.newarray .int, 2) := by decide +kernel
theorem dX9_init_195 : decode cX9_init 195 = .ok (.putfield 86, 3) := by decide +kernel
theorem dX9_init_198 : decode cX9_init 198 = .ok (.aload_n 0, 1) := by decide +kernel
theorem dX9_init_199 : decode cX9_init 199 = .ok (.iconst 4, 1) := by decide +kernel
theorem dX9_init_200 : decode cX9_init 200 = .ok (.newarray .int, 2) := by decide +kernel
theorem dX9_init_202 : decode cX9_init 202 = .ok (.putfield 89, 3) := by decide +kernel
theorem dX9_init_205 : decode cX9_init 205 = .ok (.aload_n 0, 1) := by decide +kernel
theorem dX9_init_206 : decode cX9_init 206 = .ok (.iconst 4, 1) := by decide +kernel
theorem dX9_init_207 : decode cX9_init 207 = .ok (.newarray .int, 2) := by decide +kernel
theorem dX9_init_209 : decode cX9_init 209 = .ok (.putfield 92, 3) := by decide +kernel
theorem dX9_init_212 : decode cX9_init 212 = .ok (.aload_n 0, 1) := by decide +kernel
theorem dX9_init_213 : decode cX9_init 213 = .ok (.iconst 4, 1) := by decide +kernel
theorem dX9_init_214 : decode cX9_init 214 = .ok (.newarray .int, 2) := by decide +kernel
theorem dX9_init_216 : decode cX9_init 216 = .ok (.putfield 95, 3) := by decide +kernel
theorem dX9_init_219 : decode cX9_init 219 = .ok (.aload_n 0, 1) := by decide +kernel
theorem dX9_init_220 : decode cX9_init 220 = .ok (.sipush 256, 3) := by decide +kernel
theorem dX9_init_223 : decode cX9_init 223 = .ok (.newarray .int, 2) := by decide +kernel
theorem dX9_init_225 : decode cX9_init 225 = .ok (.putfield 98, 3) := by decide +kernel
theorem dX9_init_228 : decode cX9_init 228 = .ok (.aload_n 0, 1) := by decide +kernel
theorem dX9_init_229 : decode cX9_init 229 = .ok (.iconst 4, 1) := by decide +kernel
theorem dX9_init_230 : decode cX9_init 230 = .ok (.newarray .int, 2) := by decide +kernel
theorem dX9_init_232 : decode cX9_init 232 = .ok (.putfield 101, 3) := by decide +kernel
theorem dX9_init_235 : decode cX9_init 235 = .ok (.aload_n 0, 1) := by decide +kernel
theorem dX9_init_236 : decode cX9_init 236 = .ok (.bipush 40, 2) := by decide +kernel
theorem dX9_init_238 : decode cX9_init 238 = .ok (.newarray .int, 2) := by decide +kernel
theorem dX9_init_240 : decode cX9_init 240 = .ok (.putfield 104, 3) := by decide +kernel
theorem dX9_init_243 : decode cX9_init 243 = .ok (.aload_n 0, 1) := by decide +kernel
theorem dX9_init_244 : decode cX9_init 244 = .ok (.sipush 128, 3) := by decide +kernel
theorem dX9_init_247 : decode cX9_init 247 = .ok (.newarray .int, 2) := by decide +kernel
theorem dX9_init_249 : decode cX9_init 249 = .ok (.putfield 107, 3) := by decide +kernel
theorem dX9_init_252 : decode cX9_init 252 = .ok (.aload_n 0, 1) := by decide +kernel
theorem dX9_init_253 : decode cX9_init 253 = .ok (.sipush 512, 3) := by decide +kernel
theorem dX9_init_256 : decode cX9_init 256 = .ok (.newarray .int, 2) := by decide +kernel
theorem dX9_init_258 : decode cX9_init 258 = .ok (.putfield 110, 3) := by decide +kernel
theorem dX9_init_261 : decode cX9_init 261 = .ok (.aload_n 0, 1) := by decide +kernel
theorem dX9_init_262 : decode cX9_init 262 = .ok (.bipush 8, 2) := by decide +kernel
theorem dX9_init_264 : decode cX9_init 264 = .ok (.newarray .int, 2) := by decide +kernel
theorem dX9_init_266 : decode cX9_init 266 = .ok (.putfield 113, 3) := by decide +kernel
theorem dX9_init_269 : decode cX9_init 269 = .ok (.aload_n 0, 1) := by decide +kernel
theorem dX9_init_270 : decode cX9_init 270 = .ok (.bipush 8, 2) := by decide +kernel
theorem dX9_init_272 : decode cX9_init 272 = .ok (.newarray .int, 2) := by decide +kernel
theorem dX9_init_274 : decode cX9_init 274 = .ok (.putfield 116, 3) := by decide +kernel
theorem dX9_init_277 : decode cX9_init 277 = .ok (.return_, 1) := by decide +kernel
abbrev rm_X9_init : Room := { frames := 1, cells := 36, slots := 2272, locals := 12 }
set_option maxHeartbeats 4000000 in
set_option maxRecDepth 20000 in
theorem t_X9_init {m q0 : Nat} {sh : Nat → Nat × Nat} {hr : Nat → Nat → Option Nat} (hq0 : q0 < m) (hs0 : sh q0 = (9, 0)) (hm : m + 36 < 900) (hw0 : WFr hr m) : MT1 yX9_init cX9_init 1 rm_X9_init 36 2272 [.ref q0] 0 m sh hr (fun sh1 hr1 => sh1 = (va_up (va_up (va_up (va_up (va_up (va_up (va_up (va_up (va_up (va_up (va_up (va_up (va_up (va_up (va_up (va_up (va_up (va_up (va_up (va_up (va_up (va_up (va_up (va_up (va_up (va_up (va_up (va_up (va_up (va_up (va_up (va_up (va_up (va_up (va_up (va_up sh m (20, 9)) (m + 1) (20, 7)) (m + 2) (20, 4)) (m + 3) (20, 4)) (m + 4) (20, 4)) (m + 5) (20, 4)) (m + 6) (20, 4)) (m + 7) (20, 4)) (m + 8) (20, 4)) (m + 9) (21, 4)) (m + 10) (21, 4)) (m + 11) (21, 4)) (m + 12) (20, 4)) (m + 13) (20, 4)) (m + 14) (20, 96)) (m + 15) (20, 96)) (m + 16) (20, 256)) (m + 17) (20, 256)) (m + 18) (20, 256)) (m + 19) (21, 256)) (m + 20) (21, 4)) (m + 21) (20, 4)) (m + 22) (20, 4)) (m + 23) (20, 4)) (m + 24) (20, 4)) (m + 25) (20, 4)) (m + 26) (20, 4)) (m + 27) (20, 4)) (m + 28) (20, 4)) (m + 29) (20, 256)) (m + 30) (20, 4)) (m + 31) (20, 40)) (m + 32) (20, 128)) (m + 33) (20, 512)) (m + 34) (20, 8)) (m + 35) (20, 8)) ∧ hr1 = (up2 (clr (up2 (clr (up2 (clr (up2 (clr (up2 (clr (up2 (clr (up2 (clr (up2 (clr (up2 (clr (up2 (clr (up2 (clr (up2 (clr (up2 (clr (up2 (clr (up2 (clr (up2 (clr (up2 (clr (up2 (clr (up2 (clr (up2 (clr (up2 (clr (up2 (clr (up2 (clr (up2 (clr (up2 (clr (up2 (clr (up2 (clr (up2 (clr (up2 (clr (up2 (clr (up2 (clr (up2 (clr (up2 (clr (up2 (clr (up2 (clr (up2 (clr hr m) q0 7 (some m)) (m + 1)) q0 8 (some (m + 1))) (m + 2)) q0 9 (some (m + 2))) (m + 3)) q0 10 (some (m + 3))) (m + 4)) q0 11 (some (m + 4))) (m + 5)) q0 12 (some (m + 5))) (m + 6)) q0 13 (some (m + 6))) (m + 7)) q0 14 (some (m + 7))) (m + 8)) q0 15 (some (m + 8))) (m + 9)) q0 16 (some (m + 9))) (m + 10)) q0 17 (some (m + 10))) (m + 11)) q0 18 (some (m + 11))) (m + 12)) q0 19 (some (m + 12))) (m + 13)) q0 20 (some (m + 13))) (m + 14)) q0 21 (some (m + 14))) (m + 15)) q0 22 (some (m + 15))) (m + 16)) q0 23 (some (m + 16))) (m + 17)) q0 24 (some (m + 17))) (m + 18)) q0 25 (some (m + 18))) (m + 19)) q0 26 (some (m + 19))) (m + 20)) q0 27 (some (m + 20))) (m + 21)) q0 28 (some (m + 21))) (m + 22)) q0 29 (some (m + 22))) (m + 23)) q0 30 (some (m + 23))) (m + 24)) q0 31 (some (m + 24))) (m + 25)) q0 32 (some (m + 25))) (m + 26)) q0 33 (some (m + 26))) (m + 27)) q0 34 (some (m + 27))) (m + 28)) q0 35 (some (m + 28))) (m + 29)) q0 36 (some (m + 29))) (m + 30)) q0 37 (some (m + 30))) (m + 31)) q0 38 (some (m + 31))) (m + 32)) q0 40 (some (m + 32))) (m + 33)) q0 41 (some (m + 33))) (m + 34)) q0 46 (some (m + 34))) (m + 35)) q0 47 (some (m + 35))) ∧ WFr hr1 (m + 36)) := by
  refine MT1.of (by decide +kernel) (Nat.le_of_ble_eq_true rfl) rfl (fun C hC hI hE => ?_)
  have hw := hw0
  have hE : xEnd1 C m 0 (m + 36) 36 2272 _ := (by rw [Nat.zero_add] at hE; exact hE)
  show KW C 0 0 [(0, .ref q0)] [] m sh hr 0 0
  refine x_aload_n hC dX9_init_0 (lm 0 rfl) ?_
  refine c_oinit hC dX9_init_1 oi_9_1 oi_m oi_c (Nat.le_of_ble_eq_true rfl) (Nat.le_of_ble_eq_true rfl) ?_
  refine x_aload_n hC dX9_init_4 (lm 0 rfl) ?_
  refine x_bipush hC dX9_init_5 bp_9 ?_
  refine c_newIE (N := 9) (m2 := m + 1) (q := m) (k2 := 1) (n2 := 9) (Nat.zero_add _) rfl rfl rfl hC dX9_init_7 ar_i (by decide) (by decide) (by decide) (by omega) hw (ok_r (by omega) (ok_r (by omega) ok_nil)) (hE.gr (by omega)) (Nat.le_of_ble_eq_true rfl) (Nat.le_of_ble_eq_true rfl) ?_
  have hw : WFr _ (m + 1) := hw.clr (q := m)
  refine c_putF (q := q0) (r := m) hC hI dX9_init_9 fk_9_7 rfl rfl (fun _ => rfl) (fun _ => rfl) ⟨⟨Nat.zero_le _, by show _ < 0 + _; omega⟩, by rw [vu (by omega), hs0]⟩ ?_
  have hw := hw.put (q := q0) (j := 7) (show m < (m + 1) from (by omega))
  refine x_aload_n hC dX9_init_12 (lm 0 rfl) ?_
  refine x_bipush hC dX9_init_13 bp_7 ?_
  refine c_newIE (N := 7) (m2 := m + 2) (q := m + 1) (k2 := 2) (n2 := 16) (Nat.zero_add _) rfl rfl rfl hC dX9_init_15 ar_i (by decide) (by decide) (by decide) (by omega) hw (ok_r (by omega) (ok_r (by omega) ok_nil)) (hE.gr (by omega)) (Nat.le_of_ble_eq_true rfl) (Nat.le_of_ble_eq_true rfl) ?_
  have hw : WFr _ (m + 2) := hw.clr (q := m + 1)
  refine c_putF (q := q0) (r := m + 1) hC hI dX9_init_17 fk_9_13 rfl rfl (fun _ => rfl) (fun _ => rfl) ⟨⟨Nat.zero_le _, by show _ < 0 + _; omega⟩, by rw [vu (by omega), vu (by omega), hs0]⟩ ?_
  have hw := hw.put (q := q0) (j := 8) (show m + 1 < (m + 2) from (by omega))
  refine x_aload_n hC dX9_init_20 (lm 0 rfl) ?_
  refine x_iconst hC dX9_init_21 ic_4 ?_
  refine c_newIE (N := 4) (m2 := m + 3) (q := m + 2) (k2 := 3) (n2 := 20) (Nat.zero_add _) rfl rfl rfl hC dX9_init_22 ar_i (by decide) (by decide) (by decide) (by omega) hw (ok_r (by omega) (ok_r (by omega) ok_nil)) (hE.gr (by omega)) (Nat.le_of_ble_eq_true rfl) (Nat.le_of_ble_eq_true rfl) ?_
  have hw : WFr _ (m + 3) := hw.clr (q := m + 2)
  refine c_putF (q := q0) (r := m + 2) hC hI dX9_init_24 fk_9_16 rfl rfl (fun _ => rfl) (fun _ => rfl) ⟨⟨Nat.zero_le _, by show _ < 0 + _; omega⟩, by rw [vu (by omega), vu (by omega), vu (by omega), hs0]⟩ ?_
  have hw := hw.put (q := q0) (j := 9) (show m + 2 < (m + 3) from (by omega))
  refine x_aload_n hC dX9_init_27 (lm 0 rfl) ?_
  refine x_iconst hC dX9_init_28 ic_4 ?_
  refine c_newIE (N := 4) (m2 := m + 4) (q := m + 3) (k2 := 4) (n2 := 24) (Nat.zero_add _) rfl rfl rfl hC dX9_init_29 ar_i (by decide) (by decide) (by decide) (by omega) hw (ok_r (by omega) (ok_r (by omega) ok_nil)) (hE.gr (by omega)) (Nat.le_of_ble_eq_true rfl) (Nat.le_of_ble_eq_true rfl) ?_
  have hw : WFr _ (m + 4) := hw.clr (q := m + 3)
  refine c_putF (q := q0) (r := m + 3) hC hI dX9_init_31 fk_9_19 rfl rfl (fun _ => rfl) (fun _ => rfl) ⟨⟨Nat.zero_le _, by show _ < 0 + _; omega⟩, by rw [vu (by omega), vu (by omega), vu (by omega), vu (by omega), hs0]⟩ ?_
  have hw := hw.put (q := q0) (j := 10) (show m + 3 < (m + 4) from (by omega))
  refine x_aload_n hC dX9_init_34 (lm 0 rfl) ?_
  refine x_iconst hC dX9_init_35 ic_4 ?_
  refine c_newIE (N := 4) (m2 := m + 5) (q := m + 4) (k2 := 5) (n2 := 28) (Nat.zero_add _) rfl rfl rfl hC dX9_init_36 ar_i (by decide) (by decide) (by decide) (by omega) hw (ok_r (by omega) (ok_r (by omega) ok_nil)) (hE.gr (by omega)) (Nat.le_of_ble_eq_true rfl) (Nat.le_of_ble_eq_true rfl) ?_
  have hw : WFr _ (m + 5) := hw.clr (q := m + 4)
  refine c_putF (q := q0) (r := m + 4) hC hI dX9_init_38 fk_9_22 rfl rfl (fun _ => rfl) (fun _ => rfl) ⟨⟨Nat.zero_le _, by show _ < 0 + _; omega⟩, by rw [vu (by omega), vu (by omega), vu (by omega), vu (by omega), vu (by omega), hs0]⟩ ?_
  have hw := hw.put (q := q0) (j := 11) (show m + 4 < (m + 5) from (by omega))
  refine x_aload_n hC dX9_init_41 (lm 0 rfl) ?_
  refine x_iconst hC dX9_init_42 ic_4 ?_
  refine c_newIE (N := 4) (m2 := m + 6) (q := m + 5) (k2 := 6) (n2 := 32) (Nat.zero_add _) rfl rfl rfl hC dX9_init_43 ar_i (by decide) (by decide) (by decide) (by omega) hw (ok_r (by omega) (ok_r (by omega) ok_nil)) (hE.gr (by omega)) (Nat.le_of_ble_eq_true rfl) (Nat.le_of_ble_eq_true rfl) ?_
  have hw : WFr _ (m + 6) := hw.clr (q := m + 5)
  refine c_putF (q := q0) (r := m + 5) hC hI dX9_init_45 fk_9_25 rfl rfl (fun _ => rfl) (fun _ => rfl) ⟨⟨Nat.zero_le _, by show _ < 0 + _; omega⟩, by rw [vu (by omega), vu (by omega), vu (by omega), vu (by omega), vu (by omega), vu (by omega), hs0]⟩ ?_
  have hw := hw.put (q := q0) (j := 12) (show m + 5 < (m + 6) from (by omega))
  refine x_aload_n hC dX9_init_48 (lm 0 rfl) ?_
  refine x_iconst hC dX9_init_49 ic_4 ?_
  refine c_newIE (N := 4) (m2 := m + 7) (q := m + 6) (k2 := 7) (n2 := 36) (Nat.zero_add _) rfl rfl rfl hC dX9_init_50 ar_i (by decide) (by decide) (by decide) (by omega) hw (ok_r (by omega) (ok_r (by omega) ok_nil)) (hE.gr (by omega)) (Nat.le_of_ble_eq_true rfl) (Nat.le_of_ble_eq_true rfl) ?_
  have hw : WFr _ (m + 7) := hw.clr (q := m + 6)
  refine c_putF (q := q0) (r := m + 6) hC hI dX9_init_52 fk_9_28 rfl rfl (fun _ => rfl) (fun _ => rfl) ⟨⟨Nat.zero_le _, by show _ < 0 + _; omega⟩, by rw [vu (by omega), vu (by omega), vu (by omega), vu (by omega), vu (by omega), vu (by omega), vu (by omega), hs0]⟩ ?_
  have hw := hw.put (q := q0) (j := 13) (show m + 6 < (m + 7) from (by omega))
  refine x_aload_n hC dX9_init_55 (lm 0 rfl) ?_
  refine x_iconst hC dX9_init_56 ic_4 ?_
  refine c_newIE (N := 4) (m2 := m + 8) (q := m + 7) (k2 := 8) (n2 := 40) (Nat.zero_add _) rfl rfl rfl hC dX9_init_57 ar_i (by decide) (by decide) (by decide) (by omega) hw (ok_r (by omega) (ok_r (by omega) ok_nil)) (hE.gr (by omega)) (Nat.le_of_ble_eq_true rfl) (Nat.le_of_ble_eq_true rfl) ?_
  have hw : WFr _ (m + 8) := hw.clr (q := m + 7)
  refine c_putF (q := q0) (r := m + 7) hC hI dX9_init_59 fk_9_31 rfl rfl (fun _ => rfl) (fun _ => rfl) ⟨⟨Nat.zero_le _, by show _ < 0 + _; omega⟩, by rw [vu (by omega), vu (by omega), vu (by omega), vu (by omega), vu (by omega), vu (by omega), vu (by omega), vu (by omega), hs0]⟩ ?_
  have hw := hw.put (q := q0) (j := 14) (show m + 7 < (m + 8) from (by omega))
  refine x_aload_n hC dX9_init_62 (lm 0 rfl) ?_
  refine x_iconst hC dX9_init_63 ic_4 ?_
  refine c_newIE (N := 4) (m2 := m + 9) (q := m + 8) (k2 := 9) (n2 := 44) (Nat.zero_add _) rfl rfl rfl hC dX9_init_64 ar_i (by decide) (by decide) (by decide) (by omega) hw (ok_r (by omega) (ok_r (by omega) ok_nil)) (hE.gr (by omega)) (Nat.le_of_ble_eq_true rfl) (Nat.le_of_ble_eq_true rfl) ?_
  have hw : WFr _ (m + 9) := hw.clr (q := m + 8)
  refine c_putF (q := q0) (r := m + 8) hC hI dX9_init_66 fk_9_34 rfl rfl (fun _ => rfl) (fun _ => rfl) ⟨⟨Nat.zero_le _, by show _ < 0 + _; omega⟩, by rw [vu (by omega), vu (by omega), vu (by omega), vu (by omega), vu (by omega), vu (by omega), vu (by omega), vu (by omega), vu (by omega), hs0]⟩ ?_
  have hw := hw.put (q := q0) (j := 15) (show m + 8 < (m + 9) from (by omega))
  refine x_aload_n hC dX9_init_69 (lm 0 rfl) ?_
  refine x_iconst hC dX9_init_70 ic_4 ?_
  refine c_newZE (N := 4) (m2 := m + 10) (q := m + 9) (k2 := 10) (n2 := 48) (Nat.zero_add _) rfl rfl rfl hC dX9_init_71 ar_z (by decide) (by decide) (by decide) (by omega) hw (ok_r (by omega) (ok_r (by omega) ok_nil)) (hE.gr (by omega)) (Nat.le_of_ble_eq_true rfl) (Nat.le_of_ble_eq_true rfl) ?_
  have hw : WFr _ (m + 10) := hw.clr (q := m + 9)
  refine c_putF (q := q0) (r := m + 9) hC hI dX9_init_73 fk_9_37 rfl rfl (fun _ => rfl) (fun _ => rfl) ⟨⟨Nat.zero_le _, by show _ < 0 + _; omega⟩, by rw [vu (by omega), vu (by omega), vu (by omega), vu (by omega), vu (by omega), vu (by omega), vu (by omega), vu (by omega), vu (by omega), vu (by omega), hs0]⟩ ?_
  have hw := hw.put (q := q0) (j := 16) (show m + 9 < (m + 10) from (by omega))
  refine x_aload_n hC dX9_init_76 (lm 0 rfl) ?_
  refine x_iconst hC dX9_init_77 ic_4 ?_
  refine c_newZE (N := 4) (m2 := m + 11) (q := m + 10) (k2 := 11) (n2 := 52) (Nat.zero_add _) rfl rfl rfl hC dX9_init_78 ar_z (by decide) (by decide) (by decide) (by omega) hw (ok_r (by omega) (ok_r (by omega) ok_nil)) (hE.gr (by omega)) (Nat.le_of_ble_eq_true rfl) (Nat.le_of_ble_eq_true rfl) ?_
  have hw : WFr _ (m + 11) := hw.clr (q := m + 10)
  refine c_putF (q := q0) (r := m + 10) hC hI dX9_init_80 fk_9_41 rfl rfl (fun _ => rfl) (fun _ => rfl) ⟨⟨Nat.zero_le _, by show _ < 0 + _; omega⟩, by rw [vu (by omega), vu (by omega), vu (by omega), vu (by omega), vu (by omega), vu (by omega), vu (by omega), vu (by omega), vu (by omega), vu (by omega), vu (by omega), hs0]⟩ ?_
  have hw := hw.put (q := q0) (j := 17) (show m + 10 < (m + 11) from (by omega))
  refine x_aload_n hC dX9_init_83 (lm 0 rfl) ?_
  refine x_iconst hC dX9_init_84 ic_4 ?_
  refine c_newZE (N := 4) (m2 := m + 12) (q := m + 11) (k2 := 12) (n2 := 56) (Nat.zero_add _) rfl rfl rfl hC dX9_init_85 ar_z (by decide) (by decide) (by decide) (by omega) hw (ok_r (by omega) (ok_r (by omega) ok_nil)) (hE.gr (by omega)) (Nat.le_of_ble_eq_true rfl) (Nat.le_of_ble_eq_true rfl) ?_
  have hw : WFr _ (m + 12) := hw.clr (q := m + 11)
  refine c_putF (q := q0) (r := m + 11) hC hI dX9_init_87 fk_9_44 rfl rfl (fun _ => rfl) (fun _ => rfl) ⟨⟨Nat.zero_le _, by show _ < 0 + _; omega⟩, by rw [vu (by omega), vu (by omega), vu (by omega), vu (by omega), vu (by omega), vu (by omega), vu (by omega), vu (by omega), vu (by omega), vu (by omega), vu (by omega), vu (by omega), hs0]⟩ ?_
  have hw := hw.put (q := q0) (j := 18) (show m + 11 < (m + 12) from (by omega))
  refine x_aload_n hC dX9_init_90 (lm 0 rfl) ?_
  refine x_iconst hC dX9_init_91 ic_4 ?_
  refine c_newIE (N := 4) (m2 := m + 13) (q := m + 12) (k2 := 13) (n2 := 60) (Nat.zero_add _) rfl rfl rfl hC dX9_init_92 ar_i (by decide) (by decide) (by decide) (by omega) hw (ok_r (by omega) (ok_r (by omega) ok_nil)) (hE.gr (by omega)) (Nat.le_of_ble_eq_true rfl) (Nat.le_of_ble_eq_true rfl) ?_
  have hw : WFr _ (m + 13) := hw.clr (q := m + 12)
  refine c_putF (q := q0) (r := m + 12) hC hI dX9_init_94 fk_9_47 rfl rfl (fun _ => rfl) (fun _ => rfl) ⟨⟨Nat.zero_le _, by show _ < 0 + _; omega⟩, by rw [vu (by omega), vu (by omega), vu (by omega), vu (by omega), vu (by omega), vu (by omega), vu (by omega), vu (by omega), vu (by omega), vu (by omega), vu (by omega), vu (by omega), vu (by omega), hs0]⟩ ?_
  have hw := hw.put (q := q0) (j := 19) (show m + 12 < (m + 13) from (by omega))
  refine x_aload_n hC dX9_init_97 (lm 0 rfl) ?_
  refine x_iconst hC dX9_init_98 ic_4 ?_
  refine c_newIE (N := 4) (m2 := m + 14) (q := m + 13) (k2 := 14) (n2 := 64) (Nat.zero_add _) rfl rfl rfl hC dX9_init_99 ar_i (by decide) (by decide) (by decide) (by omega) hw (ok_r (by omega) (ok_r (by omega) ok_nil)) (hE.gr (by omega)) (Nat.le_of_ble_eq_true rfl) (Nat.le_of_ble_eq_true rfl) ?_
  have hw : WFr _ (m + 14) := hw.clr (q := m + 13)
  refine c_putF (q := q0) (r := m + 13) hC hI dX9_init_101 fk_9_50 rfl rfl (fun _ => rfl) (fun _ => rfl) ⟨⟨Nat.zero_le _, by show _ < 0 + _; omega⟩, by rw [vu (by omega), vu (by omega), vu (by omega), vu (by omega), vu (by omega), vu (by omega), vu (by omega), vu (by omega), vu (by omega), vu (by omega), vu (by omega), vu (by omega), vu (by omega), vu (by omega), hs0]⟩ ?_
  have hw := hw.put (q := q0) (j := 20) (show m + 13 < (m + 14) from (by omega))
  refine x_aload_n hC dX9_init_104 (lm 0 rfl) ?_
  refine x_bipush hC dX9_init_105 bp_96 ?_
  refine c_newIE (N := 96) (m2 := m + 15) (q := m + 14) (k2 := 15) (n2 := 160) (Nat.zero_add _) rfl rfl rfl hC dX9_init_107 ar_i (by decide) (by decide) (by decide) (by omega) hw (ok_r (by omega) (ok_r (by omega) ok_nil)) (hE.gr (by omega)) (Nat.le_of_ble_eq_true rfl) (Nat.le_of_ble_eq_true rfl) ?_
  have hw : WFr _ (m + 15) := hw.clr (q := m + 14)
  refine c_putF (q := q0) (r := m + 14) hC hI dX9_init_109 fk_9_53 rfl rfl (fun _ => rfl) (fun _ => rfl) ⟨⟨Nat.zero_le _, by show _ < 0 + _; omega⟩, by rw [vu (by omega), vu (by omega), vu (by omega), vu (by omega), vu (by omega), vu (by omega), vu (by omega), vu (by omega), vu (by omega), vu (by omega), vu (by omega), vu (by omega), vu (by omega), vu (by omega), vu (by omega), hs0]⟩ ?_
  have hw := hw.put (q := q0) (j := 21) (show m + 14 < (m + 15) from (by omega))
  refine x_aload_n hC dX9_init_112 (lm 0 rfl) ?_
  refine x_bipush hC dX9_init_113 bp_96 ?_
  refine c_newIE (N := 96) (m2 := m + 16) (q := m + 15) (k2 := 16) (n2 := 256) (Nat.zero_add _) rfl rfl rfl hC dX9_init_115 ar_i (by decide) (by decide) (by decide) (by omega) hw (ok_r (by omega) (ok_r (by omega) ok_nil)) (hE.gr (by omega)) (Nat.le_of_ble_eq_true rfl) (Nat.le_of_ble_eq_true rfl) ?_
  have hw : WFr _ (m + 16) := hw.clr (q := m + 15)
  refine c_putF (q := q0) (r := m + 15) hC hI dX9_init_117 fk_9_56 rfl rfl (fun _ => rfl) (fun _ => rfl) ⟨⟨Nat.zero_le _, by show _ < 0 + _; omega⟩, by rw [vu (by omega), vu (by omega), vu (by omega), vu (by omega), vu (by omega), vu (by omega), vu (by omega), vu (by omega), vu (by omega), vu (by omega), vu (by omega), vu (by omega), vu (by omega), vu (by omega), vu (by omega), vu (by omega), hs0]⟩ ?_
  have hw := hw.put (q := q0) (j := 22) (show m + 15 < (m + 16) from (by omega))
  refine x_aload_n hC dX9_init_120 (lm 0 rfl) ?_
  refine x_sipush hC dX9_init_121 sp_256 ?_
  refine c_newIE (N := 256) (m2 := m + 17) (q := m + 16) (k2 := 17) (n2 := 512) (Nat.zero_add _) rfl rfl rfl hC dX9_init_124 ar_i (by decide) (by decide) (by decide) (by omega) hw (ok_r (by omega) (ok_r (by omega) ok_nil)) (hE.gr (by omega)) (Nat.le_of_ble_eq_true rfl) (Nat.le_of_ble_eq_true rfl) ?_
  have hw : WFr _ (m + 17) := hw.clr (q := m + 16)
  refine c_putF (q := q0) (r := m + 16) hC hI dX9_init_126 fk_9_59 rfl rfl (fun _ => rfl) (fun _ => rfl) ⟨⟨Nat.zero_le _, by show _ < 0 + _; omega⟩, by rw [vu (by omega), vu (by omega), vu (by omega), vu (by omega), vu (by omega), vu (by omega), vu (by omega), vu (by omega), vu (by omega), vu (by omega), vu (by omega), vu (by omega), vu (by omega), vu (by omega), vu (by omega), vu (by omega), vu (by omega), hs0]⟩ ?_
  have hw := hw.put (q := q0) (j := 23) (show m + 16 < (m + 17) from (by omega))
  refine x_aload_n hC dX9_init_129 (lm 0 rfl) ?_
  refine x_sipush hC dX9_init_130 sp_256 ?_
  refine c_newIE (N := 256) (m2 := m + 18) (q := m + 17) (k2 := 18) (n2 := 768) (Nat.zero_add _) rfl rfl rfl hC dX9_init_133 ar_i (by decide) (by decide) (by decide) (by omega) hw (ok_r (by omega) (ok_r (by omega) ok_nil)) (hE.gr (by omega)) (Nat.le_of_ble_eq_true rfl) (Nat.le_of_ble_eq_true rfl) ?_
  have hw : WFr _ (m + 18) := hw.clr (q := m + 17)
  refine c_putF (q := q0) (r := m + 17) hC hI dX9_init_135 fk_9_62 rfl rfl (fun _ => rfl) (fun _ => rfl) ⟨⟨Nat.zero_le _, by show _ < 0 + _; omega⟩, by rw [vu (by omega), vu (by omega), vu (by omega), vu (by omega), vu (by omega), vu (by omega), vu (by omega), vu (by omega), vu (by omega), vu (by omega), vu (by omega), vu (by omega), vu (by omega), vu (by omega), vu (by omega), vu (by omega), vu (by omega), vu (by omega), hs0]⟩ ?_
  have hw := hw.put (q := q0) (j := 24) (show m + 17 < (m + 18) from (by omega))
  refine x_aload_n hC dX9_init_138 (lm 0 rfl) ?_
  refine x_sipush hC dX9_init_139 sp_256 ?_
  refine c_newIE (N := 256) (m2 := m + 19) (q := m + 18) (k2 := 19) (n2 := 1024) (Nat.zero_add _) rfl rfl rfl hC dX9_init_142 ar_i (by decide) (by decide) (by decide) (by omega) hw (ok_r (by omega) (ok_r (by omega) ok_nil)) (hE.gr (by omega)) (Nat.le_of_ble_eq_true rfl) (Nat.le_of_ble_eq_true rfl) ?_
  have hw : WFr _ (m + 19) := hw.clr (q := m + 18)
  refine c_putF (q := q0) (r := m + 18) hC hI dX9_init_144 fk_9_65 rfl rfl (fun _ => rfl) (fun _ => rfl) ⟨⟨Nat.zero_le _, by show _ < 0 + _; omega⟩, by rw [vu (by omega), vu (by omega), vu (by omega), vu (by omega), vu (by omega), vu (by omega), vu (by omega), vu (by omega), vu (by omega), vu (by omega), vu (by omega), vu (by omega), vu (by omega), vu (by omega), vu (by omega), vu (by omega), vu (by omega), vu (by omega), vu (by omega), hs0]⟩ ?_
  have hw := hw.put (q := q0) (j := 25) (show m + 18 < (m + 19) from (by omega))
  refine x_aload_n hC dX9_init_147 (lm 0 rfl) ?_
  refine x_sipush hC dX9_init_148 sp_256 ?_
  refine c_newZE (N := 256) (m2 := m + 20) (q := m + 19) (k2 := 20) (n2 := 1280) (Nat.zero_add _) rfl rfl rfl hC dX9_init_151 ar_z (by decide) (by decide) (by decide) (by omega) hw (ok_r (by omega) (ok_r (by omega) ok_nil)) (hE.gr (by omega)) (Nat.le_of_ble_eq_true rfl) (Nat.le_of_ble_eq_true rfl) ?_
  have hw : WFr _ (m + 20) := hw.clr (q := m + 19)
  refine c_putF (q := q0) (r := m + 19) hC hI dX9_init_153 fk_9_68 rfl rfl (fun _ => rfl) (fun _ => rfl) ⟨⟨Nat.zero_le _, by show _ < 0 + _; omega⟩, by rw [vu (by omega), vu (by omega), vu (by omega), vu (by omega), vu (by omega), vu (by omega), vu (by omega), vu (by omega), vu (by omega), vu (by omega), vu (by omega), vu (by omega), vu (by omega), vu (by omega), vu (by omega), vu (by omega), vu (by omega), vu (by omega), vu (by omega), vu (by omega), hs0]⟩ ?_
  have hw := hw.put (q := q0) (j := 26) (show m + 19 < (m + 20) from (by omega))
  refine x_aload_n hC dX9_init_156 (lm 0 rfl) ?_
  refine x_iconst hC dX9_init_157 ic_4 ?_
  refine c_newZE (N := 4) (m2 := m + 21) (q := m + 20) (k2 := 21) (n2 := 1284) (Nat.zero_add _) rfl rfl rfl hC dX9_init_158 ar_z (by decide) (by decide) (by decide) (by omega) hw (ok_r (by omega) (ok_r (by omega) ok_nil)) (hE.gr (by omega)) (Nat.le_of_ble_eq_true rfl) (Nat.le_of_ble_eq_true rfl) ?_
  have hw : WFr _ (m + 21) := hw.clr (q := m + 20)
  refine c_putF (q := q0) (r := m + 20) hC hI dX9_init_160 fk_9_71 rfl rfl (fun _ => rfl) (fun _ => rfl) ⟨⟨Nat.zero_le _, by show _ < 0 + _; omega⟩, by rw [vu (by omega), vu (by omega), vu (by omega), vu (by omega), vu (by omega), vu (by omega), vu (by omega), vu (by omega), vu (by omega), vu (by omega), vu (by omega), vu (by omega), vu (by omega), vu (by omega), vu (by omega), vu (by omega), vu (by omega), vu (by omega), vu (by omega), vu (by omega), vu (by omega), hs0]⟩ ?_
  have hw := hw.put (q := q0) (j := 27) (show m + 20 < (m + 21) from (by omega))
  refine x_aload_n hC dX9_init_163 (lm 0 rfl) ?_
  refine x_iconst hC dX9_init_164 ic_4 ?_
  refine c_newIE (N := 4) (m2 := m + 22) (q := m + 21) (k2 := 22) (n2 := 1288) (Nat.zero_add _) rfl rfl rfl hC dX9_init_165 ar_i (by decide) (by decide) (by decide) (by omega) hw (ok_r (by omega) (ok_r (by omega) ok_nil)) (hE.gr (by omega)) (Nat.le_of_ble_eq_true rfl) (Nat.le_of_ble_eq_true rfl) ?_
  have hw : WFr _ (m + 22) := hw.clr (q := m + 21)
  refine c_putF (q := q0) (r := m + 21) hC hI dX9_init_167 fk_9_74 rfl rfl (fun _ => rfl) (fun _ => rfl) ⟨⟨Nat.zero_le _, by show _ < 0 + _; omega⟩, by rw [vu (by omega), vu (by omega), vu (by omega), vu (by omega), vu (by omega), vu (by omega), vu (by omega), vu (by omega), vu (by omega), vu (by omega), vu (by omega), vu (by omega), vu (by omega), vu (by omega), vu (by omega), vu (by omega), vu (by omega), vu (by omega), vu (by omega), vu (by omega), vu (by omega), vu (by omega), hs0]⟩ ?_
  have hw := hw.put (q := q0) (j := 28) (show m + 21 < (m + 22) from (by omega))
  refine x_aload_n hC dX9_init_170 (lm 0 rfl) ?_
  refine x_iconst hC dX9_init_171 ic_4 ?_
  refine c_newIE (N := 4) (m2 := m + 23) (q := m + 22) (k2 := 23) (n2 := 1292) (Nat.zero_add _) rfl rfl rfl hC dX9_init_172 ar_i (by decide) (by decide) (by decide) (by omega) hw (ok_r (by omega) (ok_r (by omega) ok_nil)) (hE.gr (by omega)) (Nat.le_of_ble_eq_true rfl) (Nat.le_of_ble_eq_true rfl) ?_
  have hw : WFr _ (m + 23) := hw.clr (q := m + 22)
  refine c_putF (q := q0) (r := m + 22) hC hI dX9_init_174 fk_9_77 rfl rfl (fun _ => rfl) (fun _ => rfl) ⟨⟨Nat.zero_le _, by show _ < 0 + _; omega⟩, by rw [vu (by omega), vu (by omega), vu (by omega), vu (by omega), vu (by omega), vu (by omega), vu (by omega), vu (by omega), vu (by omega), vu (by omega), vu (by omega), vu (by omega), vu (by omega), vu (by omega), vu (by omega), vu (by omega), vu (by omega), vu (by omega), vu (by omega), vu (by omega), vu (by omega), vu (by omega), vu (by omega), hs0]⟩ ?_
  have hw := hw.put (q := q0) (j := 29) (show m + 22 < (m + 23) from (by omega))
  refine x_aload_n hC dX9_init_177 (lm 0 rfl) ?_
  refine x_iconst hC dX9_init_178 ic_4 ?_
  refine c_newIE (N := 4) (m2 := m + 24) (q := m + 23) (k2 := 24) (n2 := 1296) (Nat.zero_add _) rfl rfl rfl hC dX9_init_179 ar_i (by decide) (by decide) (by decide) (by omega) hw (ok_r (by omega) (ok_r (by omega) ok_nil)) (hE.gr (by omega)) (Nat.le_of_ble_eq_true rfl) (Nat.le_of_ble_eq_true rfl) ?_
  have hw : WFr _ (m + 24) := hw.clr (q := m + 23)
  refine c_putF (q := q0) (r := m + 23) hC hI dX9_init_181 fk_9_80 rfl rfl (fun _ => rfl) (fun _ => rfl) ⟨⟨Nat.zero_le _, by show _ < 0 + _; omega⟩, by rw [vu (by omega), vu (by omega), vu (by omega), vu (by omega), vu (by omega), vu (by omega), vu (by omega), vu (by omega), vu (by omega), vu (by omega), vu (by omega), vu (by omega), vu (by omega), vu (by omega), vu (by omega), vu (by omega), vu (by omega), vu (by omega), vu (by omega), vu (by omega), vu (by omega), vu (by omega), vu (by omega), vu (by omega), hs0]⟩ ?_
  have hw := hw.put (q := q0) (j := 30) (show m + 23 < (m + 24) from (by omega))
  refine x_aload_n hC dX9_init_184 (lm 0 rfl) ?_
  refine x_iconst hC dX9_init_185 ic_4 ?_
  refine c_newIE (N := 4) (m2 := m + 25) (q := m + 24) (k2 := 25) (n2 := 1300) (Nat.zero_add _) rfl rfl rfl hC dX9_init_186 ar_i (by decide) (by decide) (by decide) (by omega) hw (ok_r (by omega) (ok_r (by omega) ok_nil)) (hE.gr (by omega)) (Nat.le_of_ble_eq_true rfl) (Nat.le_of_ble_eq_true rfl) ?_
  have hw : WFr _ (m + 25) := hw.clr (q := m + 24)
  refine c_putF (q := q0) (r := m + 24) hC hI dX9_init_188 fk_9_83 rfl rfl (fun _ => rfl) (fun _ => rfl) ⟨⟨Nat.zero_le _, by show _ < 0 + _; omega⟩, by rw [vu (by omega), vu (by omega), vu (by omega), vu (by omega), vu (by omega), vu (by omega), vu (by omega), vu (by omega), vu (by omega), vu (by omega), vu (by omega), vu (by omega), vu (by omega), vu (by omega), vu (by omega), vu (by omega), vu (by omega), vu (by omega), vu (by omega), vu (by omega), vu (by omega), vu (by omega), vu (by omega), vu (by omega), vu (by omega), hs0]⟩ ?_
  have hw := hw.put (q := q0) (j := 31) (show m + 24 < (m + 25) from (by omega))
  refine x_aload_n hC dX9_init_191 (lm 0 rfl) ?_
  refine x_iconst hC dX9_init_192 ic_4 ?_
  refine c_newIE (N := 4) (m2 := m + 26) (q := m + 25) (k2 := 26) (n2 := 1304) (Nat.zero_add _) rfl rfl rfl hC dX9_init_193 ar_i (by decide) (by decide) (by decide) (by omega) hw (ok_r (by omega) (ok_r (by omega) ok_nil)) (hE.gr (by omega)) (Nat.le_of_ble_eq_true rfl) (Nat.le_of_ble_eq_true rfl) ?_
  have hw : WFr _ (m + 26) := hw.clr (q := m + 25)
  refine c_putF (q := q0) (r := m + 25) hC hI dX9_init_195 fk_9_86 rfl rfl (fun _ => rfl) (fun _ => rfl) ⟨⟨Nat.zero_le _, by show _ < 0 + _; omega⟩, by rw [vu (by omega), vu (by omega), vu (by omega), vu (by omega), vu (by omega), vu (by omega), vu (by omega), vu (by omega), vu (by omega), vu (by omega), vu (by omega), vu (by omega), vu (by omega), vu (by omega), vu (by omega), vu (by omega), vu (by omega), vu (by omega), vu (by omega), vu (by omega), vu (by omega), vu (by omega), vu (by omega), vu (by omega), vu (by omega), vu (by omega), hs0]⟩ ?_
  have hw := hw.put (q := q0) (j := 32) (show m + 25 < (m + 26) from (by omega))
  refine x_aload_n hC dX9_init_198 (lm 0 rfl) ?_
  refine x_iconst hC dX9_init_199 ic_4 ?_
  refine c_newIE (N := 4) (m2 := m + 27) (q := m + 26) (k2 := 27) (n2 := 1308) (Nat.zero_add _) rfl rfl rfl hC dX9_init_200 ar_i (by decide) (by decide) (by decide) (by omega) hw (ok_r (by omega) (ok_r (by omega) ok_nil)) (hE.gr (by omega)) (Nat.le_of_ble_eq_true rfl) (Nat.le_of_ble_eq_true rfl) ?_
  have hw : WFr _ (m + 27) := hw.clr (q := m + 26)
  refine c_putF (q := q0) (r := m + 26) hC hI dX9_init_202 fk_9_89 rfl rfl (fun _ => rfl) (fun _ => rfl) ⟨⟨Nat.zero_le _, by show _ < 0 + _; omega⟩, by rw [vu (by omega), vu (by omega), vu (by omega), vu (by omega), vu (by omega), vu (by omega), vu (by omega), vu (by omega), vu (by omega), vu (by omega), vu (by omega), vu (by omega), vu (by omega), vu (by omega), vu (by omega), vu (by omega), vu (by omega), vu (by omega), vu (by omega), vu (by omega), vu (by omega), vu (by omega), vu (by omega), vu (by omega), vu (by omega), vu (by omega), vu (by omega), hs0]⟩ ?_
  have hw := hw.put (q := q0) (j := 33) (show m + 26 < (m + 27) from (by omega))
  refine x_aload_n hC dX9_init_205 (lm 0 rfl) ?_
  refine x_iconst hC dX9_init_206 ic_4 ?_
  refine c_newIE (N := 4) (m2 := m + 28) (q := m + 27) (k2 := 28) (n2 := 1312) (Nat.zero_add _) rfl rfl rfl hC dX9_init_207 ar_i (by decide) (by decide) (by decide) (by omega) hw (ok_r (by omega) (ok_r (by omega) ok_nil)) (hE.gr (by omega)) (Nat.le_of_ble_eq_true rfl) (Nat.le_of_ble_eq_true rfl) ?_
  have hw : WFr _ (m + 28) := hw.clr (q := m + 27)
  refine c_putF (q := q0) (r := m + 27) hC hI dX9_init_209 fk_9_92 rfl rfl (fun _ => rfl) (fun _ => rfl) ⟨⟨Nat.zero_le _, by show _ < 0 + _; omega⟩, by rw [vu (by omega), vu (by omega), vu (by omega), vu (by omega), vu (by omega), vu (by omega), vu (by omega), vu (by omega), vu (by omega), vu (by omega), vu (by omega), vu (by omega), vu (by omega), vu (by omega), vu (by omega), vu (by omega), vu (by omega), vu (by omega), vu (by omega), vu (by omega), vu (by omega), vu (by omega), vu (by omega), vu (by omega), vu (by omega), vu (by omega), vu (by omega), vu (by omega), hs0]⟩ ?_
  have hw := hw.put (q := q0) (j := 34) (show m + 27 < (m + 28) from (by omega))
  refine x_aload_n hC dX9_init_212 (lm 0 rfl) ?_
  refine x_iconst hC dX9_init_213 ic_4 ?_
  refine c_newIE (N := 4) (m2 := m + 29) (q := m + 28) (k2 := 29) (n2 := 1316) (Nat.zero_add _) rfl rfl rfl hC dX9_init_214 ar_i (by decide) (by decide) (by decide) (by omega) hw (ok_r (by omega) (ok_r (by omega) ok_nil)) (hE.gr (by omega)) (Nat.le_of_ble_eq_true rfl) (Nat.le_of_ble_eq_true rfl) ?_
  have hw : WFr _ (m + 29) := hw.clr (q := m + 28)
  refine c_putF (q := q0) (r := m + 28) hC hI dX9_init_216 fk_9_95 rfl rfl (fun _ => rfl) (fun _ => rfl) ⟨⟨Nat.zero_le _, by show _ < 0 + _; omega⟩, by rw [vu (by omega), vu (by omega), vu (by omega), vu (by omega), vu (by omega), vu (by omega), vu (by omega), vu (by omega), vu (by omega), vu (by omega), vu (by omega), vu (by omega), vu (by omega), vu (by omega), vu (by omega), vu (by omega), vu (by omega), vu (by omega), vu (by omega), vu (by omega), vu (by omega), vu (by omega), vu (by omega), vu (by omega), vu (by omega), vu (by omega), vu (by omega), vu (by omega), vu (by omega), hs0]⟩ ?_
  have hw := hw.put (q := q0) (j := 35) (show m + 28 < (m + 29) from (by omega))
  refine x_aload_n hC dX9_init_219 (lm 0 rfl) ?_
  refine x_sipush hC dX9_init_220 sp_256 ?_
  refine c_newIE (N := 256) (m2 := m + 30) (q := m + 29) (k2 := 30) (n2 := 1572) (Nat.zero_add _) rfl rfl rfl hC dX9_init_223 ar_i (by decide) (by decide) (by decide) (by omega) hw (ok_r (by omega) (ok_r (by omega) ok_nil)) (hE.gr (by omega)) (Nat.le_of_ble_eq_true rfl) (Nat.le_of_ble_eq_true rfl) ?_
  have hw : WFr _ (m + 30) := hw.clr (q := m + 29)
  refine c_putF (q := q0) (r := m + 29) hC hI dX9_init_225 fk_9_98 rfl rfl (fun _ => rfl) (fun _ => rfl) ⟨⟨Nat.zero_le _, by show _ < 0 + _; omega⟩, by rw [vu (by omega), vu (by omega), vu (by omega), vu (by omega), vu (by omega), vu (by omega), vu (by omega), vu (by omega), vu (by omega), vu (by omega), vu (by omega), vu (by omega), vu (by omega), vu (by omega), vu (by omega), vu (by omega), vu (by omega), vu (by omega), vu (by omega), vu (by omega), vu (by omega), vu (by omega), vu (by omega), vu (by omega), vu (by omega), vu (by omega), vu (by omega), vu (by omega), vu (by omega), vu (by omega), hs0]⟩ ?_
  have hw := hw.put (q := q0) (j := 36) (show m + 29 < (m + 30) from (by omega))
  refine x_aload_n hC dX9_init_228 (lm 0 rfl) ?_
  refine x_iconst hC dX9_init_229 ic_4 ?_
  refine c_newIE (N := 4) (m2 := m + 31) (q := m + 30) (k2 := 31) (n2 := 1576) (Nat.zero_add _) rfl rfl rfl hC dX9_init_230 ar_i (by decide) (by decide) (by decide) (by omega) hw (ok_r (by omega) (ok_r (by omega) ok_nil)) (hE.gr (by omega)) (Nat.le_of_ble_eq_true rfl) (Nat.le_of_ble_eq_true rfl) ?_
  have hw : WFr _ (m + 31) := hw.clr (q := m + 30)
  refine c_putF (q := q0) (r := m + 30) hC hI dX9_init_232 fk_9_101 rfl rfl (fun _ => rfl) (fun _ => rfl) ⟨⟨Nat.zero_le _, by show _ < 0 + _; omega⟩, by rw [vu (by omega), vu (by omega), vu (by omega), vu (by omega), vu (by omega), vu (by omega), vu (by omega), vu (by omega), vu (by omega), vu (by omega), vu (by omega), vu (by omega), vu (by omega), vu (by omega), vu (by omega), vu (by omega), vu (by omega), vu (by omega), vu (by omega), vu (by omega), vu (by omega), vu (by omega), vu (by omega), vu (by omega), vu (by omega), vu (by omega), vu (by omega), vu (by omega), vu (by omega), vu (by omega), vu (by omega), hs0]⟩ ?_
  have hw := hw.put (q := q0) (j := 37) (show m + 30 < (m + 31) from (by omega))
  refine x_aload_n hC dX9_init_235 (lm 0 rfl) ?_
  refine x_bipush hC dX9_init_236 bp_40 ?_
  refine c_newIE (N := 40) (m2 := m + 32) (q := m + 31) (k2 := 32) (n2 := 1616) (Nat.zero_add _) rfl rfl rfl hC dX9_init_238 ar_i (by decide) (by decide) (by decide) (by omega) hw (ok_r (by omega) (ok_r (by omega) ok_nil)) (hE.gr (by omega)) (Nat.le_of_ble_eq_true rfl) (Nat.le_of_ble_eq_true rfl) ?_
  have hw : WFr _ (m + 32) := hw.clr (q := m + 31)
  refine c_putF (q := q0) (r := m + 31) hC hI dX9_init_240 fk_9_104 rfl rfl (fun _ => rfl) (fun _ => rfl) ⟨⟨Nat.zero_le _, by show _ < 0 + _; omega⟩, by rw [vu (by omega), vu (by omega), vu (by omega), vu (by omega), vu (by omega), vu (by omega), vu (by omega), vu (by omega), vu (by omega), vu (by omega), vu (by omega), vu (by omega), vu (by omega), vu (by omega), vu (by omega), vu (by omega), vu (by omega), vu (by omega), vu (by omega), vu (by omega), vu (by omega), vu (by omega), vu (by omega), vu (by omega), vu (by omega), vu (by omega), vu (by omega), vu (by omega), vu (by omega), vu (by omega), vu (by omega), vu (by omega), hs0]⟩ ?_
  have hw := hw.put (q := q0) (j := 38) (show m + 31 < (m + 32) from (by omega))
  refine x_aload_n hC dX9_init_243 (lm 0 rfl) ?_
  refine x_sipush hC dX9_init_244 sp_128 ?_
  refine c_newIE (N := 128) (m2 := m + 33) (q := m + 32) (k2 := 33) (n2 := 1744) (Nat.zero_add _) rfl rfl rfl hC dX9_init_247 ar_i (by decide) (by decide) (by decide) (by omega) hw (ok_r (by omega) (ok_r (by omega) ok_nil)) (hE.gr (by omega)) (Nat.le_of_ble_eq_true rfl) (Nat.le_of_ble_eq_true rfl) ?_
  have hw : WFr _ (m + 33) := hw.clr (q := m + 32)
  refine c_putF (q := q0) (r := m + 32) hC hI dX9_init_249 fk_9_107 rfl rfl (fun _ => rfl) (fun _ => rfl) ⟨⟨Nat.zero_le _, by show _ < 0 + _; omega⟩, by rw [vu (by omega), vu (by omega), vu (by omega), vu (by omega), vu (by omega), vu (by omega), vu (by omega), vu (by omega), vu (by omega), vu (by omega), vu (by omega), vu (by omega), vu (by omega), vu (by omega), vu (by omega), vu (by omega), vu (by omega), vu (by omega), vu (by omega), vu (by omega), vu (by omega), vu (by omega), vu (by omega), vu (by omega), vu (by omega), vu (by omega), vu (by omega), vu (by omega), vu (by omega), vu (by omega), vu (by omega), vu (by omega), vu (by omega), hs0]⟩ ?_
  have hw := hw.put (q := q0) (j := 40) (show m + 32 < (m + 33) from (by omega))
  refine x_aload_n hC dX9_init_252 (lm 0 rfl) ?_
  refine x_sipush hC dX9_init_253 sp_512 ?_
  refine c_newIE (N := 512) (m2 := m + 34) (q := m + 33) (k2 := 34) (n2 := 2256) (Nat.zero_add _) rfl rfl rfl hC dX9_init_256 ar_i (by decide) (by decide) (by decide) (by omega) hw (ok_r (by omega) (ok_r (by omega) ok_nil)) (hE.gr (by omega)) (Nat.le_of_ble_eq_true rfl) (Nat.le_of_ble_eq_true rfl) ?_
  have hw : WFr _ (m + 34) := hw.clr (q := m + 33)
  refine c_putF (q := q0) (r := m + 33) hC hI dX9_init_258 fk_9_110 rfl rfl (fun _ => rfl) (fun _ => rfl) ⟨⟨Nat.zero_le _, by show _ < 0 + _; omega⟩, by rw [vu (by omega), vu (by omega), vu (by omega), vu (by omega), vu (by omega), vu (by omega), vu (by omega), vu (by omega), vu (by omega), vu (by omega), vu (by omega), vu (by omega), vu (by omega), vu (by omega), vu (by omega), vu (by omega), vu (by omega), vu (by omega), vu (by omega), vu (by omega), vu (by omega), vu (by omega), vu (by omega), vu (by omega), vu (by omega), vu (by omega), vu (by omega), vu (by omega), vu (by omega), vu (by omega), vu (by omega), vu (by omega), vu (by omega), vu (by omega), hs0]⟩ ?_
  have hw := hw.put (q := q0) (j := 41) (show m + 33 < (m + 34) from (by omega))
  refine x_aload_n hC dX9_init_261 (lm 0 rfl) ?_
  refine x_bipush hC dX9_init_262 bp_8 ?_
  refine c_newIE (N := 8) (m2 := m + 35) (q := m + 34) (k2 := 35) (n2 := 2264) (Nat.zero_add _) rfl rfl rfl hC dX9_init_264 ar_i (by decide) (by decide) (by decide) (by omega) hw (ok_r (by omega) (ok_r (by omega) ok_nil)) (hE.gr (by omega)) (Nat.le_of_ble_eq_true rfl) (Nat.le_of_ble_eq_true rfl) ?_
  have hw : WFr _ (m + 35) := hw.clr (q := m + 34)
  refine c_putF (q := q0) (r := m + 34) hC hI dX9_init_266 fk_9_113 rfl rfl (fun _ => rfl) (fun _ => rfl) ⟨⟨Nat.zero_le _, by show _ < 0 + _; omega⟩, by rw [vu (by omega), vu (by omega), vu (by omega), vu (by omega), vu (by omega), vu (by omega), vu (by omega), vu (by omega), vu (by omega), vu (by omega), vu (by omega), vu (by omega), vu (by omega), vu (by omega), vu (by omega), vu (by omega), vu (by omega), vu (by omega), vu (by omega), vu (by omega), vu (by omega), vu (by omega), vu (by omega), vu (by omega), vu (by omega), vu (by omega), vu (by omega), vu (by omega), vu (by omega), vu (by omega), vu (by omega), vu (by omega), vu (by omega), vu (by omega), vu (by omega), hs0]⟩ ?_
  have hw := hw.put (q := q0) (j := 46) (show m + 34 < (m + 35) from (by omega))
  refine x_aload_n hC dX9_init_269 (lm 0 rfl) ?_
  refine x_bipush hC dX9_init_270 bp_8 ?_
  refine c_newIE (N := 8) (m2 := m + 36) (q := m + 35) (k2 := 36) (n2 := 2272) (Nat.zero_add _) rfl rfl rfl hC dX9_init_272 ar_i (by decide) (by decide) (by decide) (by omega) hw (ok_r (by omega) (ok_r (by omega) ok_nil)) (hE.gr (by omega)) (Nat.le_of_ble_eq_true rfl) (Nat.le_of_ble_eq_true rfl) ?_
  have hw : WFr _ (m + 36) := hw.clr (q := m + 35)
  refine c_putF (q := q0) (r := m + 35) hC hI dX9_init_274 fk_9_116 rfl rfl (fun _ => rfl) (fun _ => rfl) ⟨⟨Nat.zero_le _, by show _ < 0 + _; omega⟩, by rw [vu (by omega), vu (by omega), vu (by omega), vu (by omega), vu (by omega), vu (by omega), vu (by omega), vu (by omega), vu (by omega), vu (by omega), vu (by omega), vu (by omega), vu (by omega), vu (by omega), vu (by omega), vu (by omega), vu (by omega), vu (by omega), vu (by omega), vu (by omega), vu (by omega), vu (by omega), vu (by omega), vu (by omega), vu (by omega), vu (by omega), vu (by omega), vu (by omega), vu (by omega), vu (by omega), vu (by omega), vu (by omega), vu (by omega), vu (by omega), vu (by omega), vu (by omega), hs0]⟩ ?_
  have hw := hw.put (q := q0) (j := 47) (show m + 35 < (m + 36) from (by omega))
  exact c_vret hC hE dX9_init_277 ⟨rfl, rfl, hw⟩
