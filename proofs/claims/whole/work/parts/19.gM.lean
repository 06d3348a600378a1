theorem dX9_goesOn_0 : decode cX9_goesOn 0 = .ok (.aload_n 0, 1) := by decide +kernel
theorem dX9_goesOn_1 : decode cX9_goesOn 1 = .ok (.getfield 98, 3) := by decide +kernel
theorem dX9_goesOn_4 : decode cX9_goesOn 4 = .ok (.bipush 64, 2) := by decide +kernel
theorem dX9_goesOn_6 : decode cX9_goesOn 6 = .ok (.iload_n 1, 1) := by decide +kernel
theorem dX9_goesOn_7 : decode cX9_goesOn 7 = .ok (.imul, 1) := by decide +kernel
theorem dX9_goesOn_8 : decode cX9_goesOn 8 = .ok (.aload_n 0, 1) := by decide +kernel
theorem dX9_goesOn_9 : decode cX9_goesOn 9 = .ok (.getfield 83, 3) := by decide +kernel
theorem dX9_goesOn_12 : decode cX9_goesOn 12 = .ok (.iload_n 1, 1) := by decide +kernel
theorem dX9_goesOn_13 : decode cX9_goesOn 13 = .ok (.iaload, 1) := by decide +kernel
theorem dX9_goesOn_14 : decode cX9_goesOn 14 = .ok (.iadd, 1) := by decide +kernel
theorem dX9_goesOn_15 : decode cX9_goesOn 15 = .ok (.iaload, 1) := by decide +kernel
theorem dX9_goesOn_16 : decode cX9_goesOn 16 = .ok (.iconst (-1), 1) := by decide +kernel
theorem dX9_goesOn_17 : decode cX9_goesOn 17 = .ok (.if_icmp .eq 11, 3) := by decide +kernel
theorem dX9_goesOn_20 : decode cX9_goesOn 20 = .ok (.aload_n 0, 1) := by decide +kernel
theorem dX9_goesOn_21 : decode cX9_goesOn 21 = .ok (.iload_n 1, 1) := by decide +kernel
theorem dX9_goesOn_22 : decode cX9_goesOn 22 = .ok (.invokevirtual 235, 3) := by decide +kernel
theorem dX9_goesOn_25 : decode cX9_goesOn 25 = .ok (.goto (-25), 3) := by decide +kernel
theorem dX9_goesOn_28 : decode cX9_goesOn 28 = .ok (.return_, 1) := by decide +kernel
abbrev rm_X9_goesOn : Room := { frames := 2, cells := 0, slots := 0, locals := 45 }
def P_X9_goesOn (i1 : Int32) (h : HP) (Q : HP → Prop) : Prop := Lp1 (fun X_0  (h_0 : HP) => (vp_in i1 4) ∧ ((vp_in ((64 * i1) + (h_0.1 103 i1.toNatClampNeg)) 256) ∧ ((((h_0.1 108 ((64 * i1) + (h_0.1 103 i1.toNatClampNeg)).toNatClampNeg) = (-1)) → Q h_0) ∧ ((¬ (h_0.1 108 ((64 * i1) + (h_0.1 103 i1.toNatClampNeg)).toNatClampNeg) = (-1)) → (P_X9_steps i1 h_0 (fun (h_22 : HP) => X_0 h_22)))))) h
set_option maxHeartbeats 4000000 in
theorem t_X9_goesOn {i1 : Int32} {h : HP} {Q : HP → Prop}  (hp : P_X9_goesOn i1 h Q) : MT yX9_goesOn cX9_goesOn 2 none rm_X9_goesOn [.ref 78, .int i1] gM SH (emb h) (pV Q) := by
  refine MT.of (by decide +kernel) (Nat.le_of_ble_eq_true rfl) (fun C hC hE => ?_)
  show SW C gM 0 [(0, .ref 78), (1, .int i1)] [] h
  unfold P_X9_goesOn at hp
  refine x_subk (lv' := [(0, .ref 78), (1, .int i1)]) [0, 1] rfl ?_
  refine hp (fun  h_0 => SW C gM 0 [(0, .ref 78), (1, .int i1)] [] h_0) (fun  h_0 hp => ?_)
  refine x_aload_n hC dX9_goesOn_0 (lm 0 rfl) ?_
  refine s_getR (r := 108) hC dX9_goesOn_1 fk_9_98 ty_78 (fr_9_36 ty_78).1 ?_
  refine x_bipush hC dX9_goesOn_4 bp_64 ?_
  refine x_iload_n hC dX9_goesOn_6 (lm 1 rfl) ?_
  refine x_imul hC dX9_goesOn_7 ?_
  refine x_aload_n hC dX9_goesOn_8 (lm 0 rfl) ?_
  refine s_getR (r := 103) hC dX9_goesOn_9 fk_9_83 ty_78 (fr_9_31 ty_78).1 ?_
  refine x_iload_n hC dX9_goesOn_12 (lm 1 rfl) ?_
  obtain ⟨ho, hp⟩ := hp
  refine s_iald hC dX9_goesOn_13 ((fr_9_31 ty_78).2) ho ?_
  refine x_iadd hC dX9_goesOn_14 ?_
  obtain ⟨ho, hp⟩ := hp
  refine s_iald hC dX9_goesOn_15 ((fr_9_36 ty_78).2) ho ?_
  refine x_iconst hC dX9_goesOn_16 ic_m1 ?_
  refine x_icmp_eq (tgt := 28) hC dX9_goesOn_17 (by decide) (fun hc => ?_) (fun hc => ?_)
  · have hp := hp.1 hc
    exact x_vret hC hE dX9_goesOn_28 ⟨_, rfl, rfl, hp⟩
  · have hp := hp.2 hc
    refine x_aload_n hC dX9_goesOn_20 (lm 0 rfl) ?_
    refine x_iload_n hC dX9_goesOn_21 (lm 1 rfl) ?_
    refine s_callVv (avs := [.int i1]) (st := []) hC dX9_goesOn_22 ml_9_235 mi_X9_steps ty_78 rfl (t_X9_steps  hp) (Nat.le_of_ble_eq_true rfl) ⟨rfl, rfl⟩ ⟨Nat.le_of_ble_eq_true rfl, Nat.le_of_ble_eq_true rfl⟩ (fun h_22 hp => ?_)
    refine x_goto (tgt := 0) hC dX9_goesOn_25 (by decide) ?_
    exact x_subk [0, 1] rfl hp
theorem dX9_marksTo_0 : decode cX9_marksTo 0 = .ok (.aload_n 0, 1) := by decide +kernel
theorem dX9_marksTo_1 : decode cX9_marksTo 1 = .ok (.getfield 86, 3) := by decide +kernel
theorem dX9_marksTo_4 : decode cX9_marksTo 4 = .ok (.iload_n 1, 1) := by decide +kernel
theorem dX9_marksTo_5 : decode cX9_marksTo 5 = .ok (.iaload, 1) := by decide +kernel
theorem dX9_marksTo_6 : decode cX9_marksTo 6 = .ok (.iload_n 2, 1) := by decide +kernel
theorem dX9_marksTo_7 : decode cX9_marksTo 7 = .ok (.invokestatic 119, 3) := by decide +kernel
theorem dX9_marksTo_10 : decode cX9_marksTo 10 = .ok (.istore_n 3, 1) := by decide +kernel
theorem dX9_marksTo_11 : decode cX9_marksTo 11 = .ok (.aload_n 0, 1) := by decide +kernel
theorem dX9_marksTo_12 : decode cX9_marksTo 12 = .ok (.getfield 89, 3) := by decide +kernel
theorem dX9_marksTo_15 : decode cX9_marksTo 15 = .ok (.iload_n 1, 1) := by decide +kernel
theorem dX9_marksTo_16 : decode cX9_marksTo 16 = .ok (.iload_n 3, 1) := by decide +kernel
theorem dX9_marksTo_17 : decode cX9_marksTo 17 = .ok (.bipush 16, 2) := by decide +kernel
theorem dX9_marksTo_19 : decode cX9_marksTo 19 = .ok (.if_icmp .le 7, 3) := by decide +kernel
theorem dX9_marksTo_22 : decode cX9_marksTo 22 = .ok (.iconst 0, 1) := by decide +kernel
theorem dX9_marksTo_23 : decode cX9_marksTo 23 = .ok (.goto 11, 3) := by decide +kernel
theorem dX9_marksTo_26 : decode cX9_marksTo 26 = .ok (.aload_n 0, 1) := by decide +kernel
theorem dX9_marksTo_27 : decode cX9_marksTo 27 = .ok (.getfield 89, 3) := by decide +kernel
theorem dX9_marksTo_30 : decode cX9_marksTo 30 = .ok (.iload_n 1, 1) := by decide +kernel
theorem dX9_marksTo_31 : decode cX9_marksTo 31 = .ok (.iaload, 1) := by decide +kernel
theorem dX9_marksTo_32 : decode cX9_marksTo 32 = .ok (.iload_n 3, 1) := by decide +kernel
theorem dX9_marksTo_33 : decode cX9_marksTo 33 = .ok (.ishr, 1) := by decide +kernel
theorem dX9_marksTo_34 : decode cX9_marksTo 34 = .ok (.iastore, 1) := by decide +kernel
theorem dX9_marksTo_35 : decode cX9_marksTo 35 = .ok (.aload_n 0, 1) := by decide +kernel
theorem dX9_marksTo_36 : decode cX9_marksTo 36 = .ok (.getfield 86, 3) := by decide +kernel
theorem dX9_marksTo_39 : decode cX9_marksTo 39 = .ok (.iload_n 1, 1) := by decide +kernel
theorem dX9_marksTo_40 : decode cX9_marksTo 40 = .ok (.iload_n 2, 1) := by decide +kernel
theorem dX9_marksTo_41 : decode cX9_marksTo 41 = .ok (.iastore, 1) := by decide +kernel
theorem dX9_marksTo_42 : decode cX9_marksTo 42 = .ok (.return_, 1) := by decide +kernel
abbrev rm_X9_marksTo : Room := { frames := 1, cells := 0, slots := 0, locals := 21 }
def P_X9_marksTo (i1 : Int32) (i2 : Int32) (h : HP) (Q : HP → Prop) : Prop := (vp_in i1 4) ∧ (P_X9_ahead (h.1 104 i1.toNatClampNeg) i2 h (fun (v_7 : Int32) (h_7 : HP) => ((v_7 ≤ 16) → ((vp_in i1 4) ∧ ((vp_in i1 4) ∧ ((vp_in i1 4) ∧ (Q (si (si h_7 105 i1.toNatClampNeg ((h_7.1 105 i1.toNatClampNeg) >>> (v_7 &&& 31))) 104 i1.toNatClampNeg i2)))))) ∧ ((¬ v_7 ≤ 16) → ((vp_in i1 4) ∧ ((vp_in i1 4) ∧ (Q (si (si h_7 105 i1.toNatClampNeg 0) 104 i1.toNatClampNeg i2)))))))
set_option maxHeartbeats 4000000 in
theorem t_X9_marksTo {i1 : Int32} {i2 : Int32} {h : HP} {Q : HP → Prop}  (hp : P_X9_marksTo i1 i2 h Q) : MT yX9_marksTo cX9_marksTo 4 none rm_X9_marksTo [.ref 78, .int i1, .int i2] gM SH (emb h) (pV Q) := by
  refine MT.of (by decide +kernel) (Nat.le_of_ble_eq_true rfl) (fun C hC hE => ?_)
  show SW C gM 0 [(0, .ref 78), (1, .int i1), (2, .int i2)] [] h
  unfold P_X9_marksTo at hp
  refine x_aload_n hC dX9_marksTo_0 (lm 0 rfl) ?_
  refine s_getR (r := 104) hC dX9_marksTo_1 fk_9_86 ty_78 (fr_9_32 ty_78).1 ?_
  refine x_iload_n hC dX9_marksTo_4 (lm 1 rfl) ?_
  obtain ⟨ho, hp⟩ := hp
  refine s_iald hC dX9_marksTo_5 ((fr_9_32 ty_78).2) ho ?_
  refine x_iload_n hC dX9_marksTo_6 (lm 2 rfl) ?_
  refine s_callSi (avs := [.int (h.1 104 i1.toNatClampNeg), .int i2]) (st := []) hC dX9_marksTo_7 ml_9_119 ms_X9_ahead rfl (t_X9_ahead  hp) (Nat.le_of_ble_eq_true rfl) ⟨rfl, rfl⟩ ⟨Nat.le_of_ble_eq_true rfl, Nat.le_of_ble_eq_true rfl⟩ (fun v_7 h_7 hp => ?_)
  refine x_istore_n (lv' := [(3, .int v_7), (0, .ref 78), (1, .int i1), (2, .int i2)]) hC dX9_marksTo_10 (by decide) rfl ?_
  refine x_aload_n hC dX9_marksTo_11 (lm 1 rfl) ?_
  refine s_getR (r := 105) hC dX9_marksTo_12 fk_9_89 ty_78 (fr_9_33 ty_78).1 ?_
  refine x_iload_n hC dX9_marksTo_15 (lm 2 rfl) ?_
  refine x_iload_n hC dX9_marksTo_16 (lm 0 rfl) ?_
  refine x_bipush hC dX9_marksTo_17 bp_16 ?_
  refine x_icmp_le (tgt := 26) hC dX9_marksTo_19 (by decide) (fun hc => ?_) (fun hc => ?_)
  · have hp := hp.1 hc
    refine x_aload_n hC dX9_marksTo_26 (lm 1 rfl) ?_
    refine s_getR (r := 105) hC dX9_marksTo_27 fk_9_89 ty_78 (fr_9_33 ty_78).1 ?_
    refine x_iload_n hC dX9_marksTo_30 (lm 2 rfl) ?_
    obtain ⟨ho, hp⟩ := hp
    refine s_iald hC dX9_marksTo_31 ((fr_9_33 ty_78).2) ho ?_
    refine x_iload_n hC dX9_marksTo_32 (lm 0 rfl) ?_
    refine x_ishr hC dX9_marksTo_33 ?_
    obtain ⟨ho, hp⟩ := hp
    refine s_iast hC dX9_marksTo_34 ((fr_9_33 ty_78).2) ho ?_
    refine x_aload_n hC dX9_marksTo_35 (lm 1 rfl) ?_
    refine s_getR (r := 104) hC dX9_marksTo_36 fk_9_86 ty_78 (fr_9_32 ty_78).1 ?_
    refine x_iload_n hC dX9_marksTo_39 (lm 2 rfl) ?_
    refine x_iload_n hC dX9_marksTo_40 (lm 3 rfl) ?_
    obtain ⟨ho, hp⟩ := hp
    refine s_iast hC dX9_marksTo_41 ((fr_9_32 ty_78).2) ho ?_
    exact x_vret hC hE dX9_marksTo_42 ⟨_, rfl, rfl, hp⟩
  · have hp := hp.2 hc
    refine x_iconst hC dX9_marksTo_22 ic_0 ?_
    refine x_goto (tgt := 34) hC dX9_marksTo_23 (by decide) ?_
    obtain ⟨ho, hp⟩ := hp
    refine s_iast hC dX9_marksTo_34 ((fr_9_33 ty_78).2) ho ?_
    refine x_aload_n hC dX9_marksTo_35 (lm 1 rfl) ?_
    refine s_getR (r := 104) hC dX9_marksTo_36 fk_9_86 ty_78 (fr_9_32 ty_78).1 ?_
    refine x_iload_n hC dX9_marksTo_39 (lm 2 rfl) ?_
    refine x_iload_n hC dX9_marksTo_40 (lm 3 rfl) ?_
    obtain ⟨ho, hp⟩ := hp
    refine s_iast hC dX9_marksTo_41 ((fr_9_32 ty_78).2) ho ?_
    exact x_vret hC hE dX9_marksTo_42 ⟨_, rfl, rfl, hp⟩
theorem dX9_lastOf_0 : decode cX9_lastOf 0 = .ok (.iload_n 0, 1) := by decide +kernel
theorem dX9_lastOf_1 : decode cX9_lastOf 1 = .ok (.iload_n 1, 1) := by decide +kernel
theorem dX9_lastOf_2 : decode cX9_lastOf 2 = .ok (.isub, 1) := by decide +kernel
theorem dX9_lastOf_3 : decode cX9_lastOf 3 = .ok (.iconst 1, 1) := by decide +kernel
theorem dX9_lastOf_4 : decode cX9_lastOf 4 = .ok (.iadd, 1) := by decide +kernel
theorem dX9_lastOf_5 : decode cX9_lastOf 5 = .ok (.bipush 64, 2) := by decide +kernel
theorem dX9_lastOf_7 : decode cX9_lastOf 7 = .ok (.iadd, 1) := by decide +kernel
theorem dX9_lastOf_8 : decode cX9_lastOf 8 = .ok (.bipush 64, 2) := by decide +kernel
theorem dX9_lastOf_10 : decode cX9_lastOf 10 = .ok (.irem, 1) := by decide +kernel
theorem dX9_lastOf_11 : decode cX9_lastOf 11 = .ok (.ireturn, 1) := by decide +kernel
abbrev rm_X9_lastOf : Room := { frames := 0, cells := 0, slots := 0, locals := 0 }
def P_X9_lastOf (i0 : Int32) (i1 : Int32) (h : HP) (Q : Int32 → HP → Prop) : Prop := Q ((((i0 - i1) + 1) + 64) - (((i0 - i1) + 1) + 64) / 64 * 64) h
set_option maxHeartbeats 4000000 in
theorem t_X9_lastOf {i0 : Int32} {i1 : Int32} {h : HP} {Q : Int32 → HP → Prop}  (hp : P_X9_lastOf i0 i1 h Q) : MT yX9_lastOf cX9_lastOf 2 (some .int) rm_X9_lastOf [.int i0, .int i1] gM SH (emb h) (pI Q) := by
  refine MT.of (by decide +kernel) (Nat.le_of_ble_eq_true rfl) (fun C hC hE => ?_)
  show SW C gM 0 [(0, .int i0), (1, .int i1)] [] h
  unfold P_X9_lastOf at hp
  refine x_iload_n hC dX9_lastOf_0 (lm 0 rfl) ?_
  refine x_iload_n hC dX9_lastOf_1 (lm 1 rfl) ?_
  refine x_isub hC dX9_lastOf_2 ?_
  refine x_iconst hC dX9_lastOf_3 ic_1 ?_
  refine x_iadd hC dX9_lastOf_4 ?_
  refine x_bipush hC dX9_lastOf_5 bp_64 ?_
  refine x_iadd hC dX9_lastOf_7 ?_
  refine x_bipush hC dX9_lastOf_8 bp_64 ?_
  refine x_irem hC dX9_lastOf_10 (by decide) ?_
  exact x_iret hC hE dX9_lastOf_11 ⟨_, _, rfl, rfl, hp⟩
theorem dX9_marks_0 : decode cX9_marks 0 = .ok (.aload_n 0, 1) := by decide +kernel
theorem dX9_marks_1 : decode cX9_marks 1 = .ok (.getfield 86, 3) := by decide +kernel
theorem dX9_marks_4 : decode cX9_marks 4 = .ok (.iload_n 1, 1) := by decide +kernel
theorem dX9_marks_5 : decode cX9_marks 5 = .ok (.iaload, 1) := by decide +kernel
theorem dX9_marks_6 : decode cX9_marks 6 = .ok (.iload_n 2, 1) := by decide +kernel
theorem dX9_marks_7 : decode cX9_marks 7 = .ok (.invokestatic 238, 3) := by decide +kernel
theorem dX9_marks_10 : decode cX9_marks 10 = .ok (.ifCond .eq 4, 3) := by decide +kernel
theorem dX9_marks_13 : decode cX9_marks 13 = .ok (.return_, 1) := by decide +kernel
theorem dX9_marks_14 : decode cX9_marks 14 = .ok (.aload_n 0, 1) := by decide +kernel
theorem dX9_marks_15 : decode cX9_marks 15 = .ok (.getfield 86, 3) := by decide +kernel
theorem dX9_marks_18 : decode cX9_marks 18 = .ok (.iload_n 1, 1) := by decide +kernel
theorem dX9_marks_19 : decode cX9_marks 19 = .ok (.iaload, 1) := by decide +kernel
theorem dX9_marks_20 : decode cX9_marks 20 = .ok (.iload_n 2, 1) := by decide +kernel
theorem dX9_marks_21 : decode cX9_marks 21 = .ok (.invokestatic 119, 3) := by decide +kernel
theorem dX9_marks_24 : decode cX9_marks 24 = .ok (.aload_n 0, 1) := by decide +kernel
theorem dX9_marks_25 : decode cX9_marks 25 = .ok (.getfield 77, 3) := by decide +kernel
theorem dX9_marks_28 : decode cX9_marks 28 = .ok (.iload_n 1, 1) := by decide +kernel
theorem dX9_marks_29 : decode cX9_marks 29 = .ok (.iaload, 1) := by decide +kernel
theorem dX9_marks_30 : decode cX9_marks 30 = .ok (.if_icmp .lt 18, 3) := by decide +kernel
theorem dX9_marks_33 : decode cX9_marks 33 = .ok (.aload_n 0, 1) := by decide +kernel
theorem dX9_marks_34 : decode cX9_marks 34 = .ok (.iload_n 1, 1) := by decide +kernel
theorem dX9_marks_35 : decode cX9_marks 35 = .ok (.iload_n 2, 1) := by decide +kernel
theorem dX9_marks_36 : decode cX9_marks 36 = .ok (.aload_n 0, 1) := by decide +kernel
theorem dX9_marks_37 : decode cX9_marks 37 = .ok (.getfield 77, 3) := by decide +kernel
theorem dX9_marks_40 : decode cX9_marks 40 = .ok (.iload_n 1, 1) := by decide +kernel
theorem dX9_marks_41 : decode cX9_marks 41 = .ok (.iaload, 1) := by decide +kernel
theorem dX9_marks_42 : decode cX9_marks 42 = .ok (.invokestatic 241, 3) := by decide +kernel
theorem dX9_marks_45 : decode cX9_marks 45 = .ok (.invokevirtual 244, 3) := by decide +kernel
theorem dX9_marks_48 : decode cX9_marks 48 = .ok (.aload_n 0, 1) := by decide +kernel
theorem dX9_marks_49 : decode cX9_marks 49 = .ok (.getfield 89, 3) := by decide +kernel
theorem dX9_marks_52 : decode cX9_marks 52 = .ok (.iload_n 1, 1) := by decide +kernel
theorem dX9_marks_53 : decode cX9_marks 53 = .ok (.dup2, 1) := by decide +kernel
theorem dX9_marks_54 : decode cX9_marks 54 = .ok (.iaload, 1) := by decide +kernel
theorem dX9_marks_55 : decode cX9_marks 55 = .ok (.iconst 1, 1) := by decide +kernel
theorem dX9_marks_56 : decode cX9_marks 56 = .ok (.aload_n 0, 1) := by decide +kernel
theorem dX9_marks_57 : decode cX9_marks 57 = .ok (.getfield 86, 3) := by decide +kernel
theorem dX9_marks_60 : decode cX9_marks 60 = .ok (.iload_n 1, 1) := by decide +kernel
theorem dX9_marks_61 : decode cX9_marks 61 = .ok (.iaload, 1) := by decide +kernel
theorem dX9_marks_62 : decode cX9_marks 62 = .ok (.iload_n 2, 1) := by decide +kernel
theorem dX9_marks_63 : decode cX9_marks 63 = .ok (.invokestatic 119, 3) := by decide +kernel
theorem dX9_marks_66 : decode cX9_marks 66 = .ok (.ishl, 1) := by decide +kernel
theorem dX9_marks_67 : decode cX9_marks 67 = .ok (.ior, 1) := by decide +kernel
theorem dX9_marks_68 : decode cX9_marks 68 = .ok (.iastore, 1) := by decide +kernel
theorem dX9_marks_69 : decode cX9_marks 69 = .ok (.return_, 1) := by decide +kernel
abbrev rm_X9_marks : Room := { frames := 2, cells := 0, slots := 0, locals := 44 }
def P_X9_marks_j48 (_q0 : Nat) (i1 : Int32) (i2 : Int32) (h : HP)  (Q : HP → Prop) : Prop := (vp_in i1 4) ∧ ((vp_in i1 4) ∧ (P_X9_ahead (h.1 104 i1.toNatClampNeg) i2 h (fun (v_63 : Int32) (h_63 : HP) => (vp_in i1 4) ∧ (Q (si h_63 105 i1.toNatClampNeg ((h.1 105 i1.toNatClampNeg) ||| (1 <<< (v_63 &&& 31))))))))
def P_X9_marks (i1 : Int32) (i2 : Int32) (h : HP) (Q : HP → Prop) : Prop := (vp_in i1 4) ∧ (P_X9_isBehind (h.1 104 i1.toNatClampNeg) i2 h (fun (v_7 : Int32) (h_7 : HP) => ((v_7 = 0) → ((vp_in i1 4) ∧ (P_X9_ahead (h_7.1 104 i1.toNatClampNeg) i2 h_7 (fun (v_21 : Int32) (h_21 : HP) => (vp_in i1 4) ∧ (((v_21 < (h_21.1 101 i1.toNatClampNeg)) → P_X9_marks_j48 78 i1 i2 h_21 Q) ∧ ((¬ v_21 < (h_21.1 101 i1.toNatClampNeg)) → ((vp_in i1 4) ∧ (P_X9_lastOf i2 (h_21.1 101 i1.toNatClampNeg) h_21 (fun (v_42 : Int32) (h_42 : HP) => P_X9_marksTo i1 v_42 h_42 (fun (h_45 : HP) => P_X9_marks_j48 78 i1 i2 h_45 Q)))))))))) ∧ ((¬ v_7 = 0) → Q h_7)))
set_option maxHeartbeats 4000000 in
theorem l_X9_marks_j48 {i1 : Int32} {i2 : Int32} {h : HP}  {Q : HP → Prop} {C : Cx} (hC : xOk C cX9_marks yX9_marks.cls 3 rm_X9_marks none) (hE : xEnd C gM SH (pV Q))   (hp : P_X9_marks_j48 78 i1 i2 h  Q) : SW C gM 48 [(0, .ref 78), (1, .int i1), (2, .int i2)] [] h := by
  unfold P_X9_marks_j48 at hp
  refine x_aload_n hC dX9_marks_48 (lm 0 rfl) ?_
  refine s_getR (r := 105) hC dX9_marks_49 fk_9_89 ty_78 (fr_9_33 ty_78).1 ?_
  refine x_iload_n hC dX9_marks_52 (lm 1 rfl) ?_
  refine x_dup2 hC dX9_marks_53 rfl rfl ?_
  obtain ⟨ho, hp⟩ := hp
  refine s_iald hC dX9_marks_54 ((fr_9_33 ty_78).2) ho ?_
  refine x_iconst hC dX9_marks_55 ic_1 ?_
  refine x_aload_n hC dX9_marks_56 (lm 0 rfl) ?_
  refine s_getR (r := 104) hC dX9_marks_57 fk_9_86 ty_78 (fr_9_32 ty_78).1 ?_
  refine x_iload_n hC dX9_marks_60 (lm 1 rfl) ?_
  obtain ⟨ho, hp⟩ := hp
  refine s_iald hC dX9_marks_61 ((fr_9_32 ty_78).2) ho ?_
  refine x_iload_n hC dX9_marks_62 (lm 2 rfl) ?_
  refine s_callSi (avs := [.int (h.1 104 i1.toNatClampNeg), .int i2]) (st := [.int 1, .int (h.1 105 i1.toNatClampNeg), .int i1, .ref 105]) hC dX9_marks_63 ml_9_119 ms_X9_ahead rfl (t_X9_ahead  hp) (Nat.le_of_ble_eq_true rfl) ⟨rfl, rfl⟩ ⟨Nat.le_of_ble_eq_true rfl, Nat.le_of_ble_eq_true rfl⟩ (fun v_63 h_63 hp => ?_)
  refine x_ishl hC dX9_marks_66 ?_
  refine x_ior hC dX9_marks_67 ?_
  obtain ⟨ho, hp⟩ := hp
  refine s_iast hC dX9_marks_68 ((fr_9_33 ty_78).2) ho ?_
  exact x_vret hC hE dX9_marks_69 ⟨_, rfl, rfl, hp⟩
set_option maxHeartbeats 4000000 in
theorem t_X9_marks {i1 : Int32} {i2 : Int32} {h : HP} {Q : HP → Prop}  (hp : P_X9_marks i1 i2 h Q) : MT yX9_marks cX9_marks 3 none rm_X9_marks [.ref 78, .int i1, .int i2] gM SH (emb h) (pV Q) := by
  refine MT.of (by decide +kernel) (Nat.le_of_ble_eq_true rfl) (fun C hC hE => ?_)
  show SW C gM 0 [(0, .ref 78), (1, .int i1), (2, .int i2)] [] h
  unfold P_X9_marks at hp
  refine x_aload_n hC dX9_marks_0 (lm 0 rfl) ?_
  refine s_getR (r := 104) hC dX9_marks_1 fk_9_86 ty_78 (fr_9_32 ty_78).1 ?_
  refine x_iload_n hC dX9_marks_4 (lm 1 rfl) ?_
  obtain ⟨ho, hp⟩ := hp
  refine s_iald hC dX9_marks_5 ((fr_9_32 ty_78).2) ho ?_
  refine x_iload_n hC dX9_marks_6 (lm 2 rfl) ?_
  refine s_callSi (avs := [.int (h.1 104 i1.toNatClampNeg), .int i2]) (st := []) hC dX9_marks_7 ml_9_238 ms_X9_isBehind rfl (t_X9_isBehind  hp) (Nat.le_of_ble_eq_true rfl) ⟨rfl, rfl⟩ ⟨Nat.le_of_ble_eq_true rfl, Nat.le_of_ble_eq_true rfl⟩ (fun v_7 h_7 hp => ?_)
  refine x_if_eq (tgt := 14) hC dX9_marks_10 (by decide) (fun hc => ?_) (fun hc => ?_)
  · have hp := hp.1 hc
    refine x_aload_n hC dX9_marks_14 (lm 0 rfl) ?_
    refine s_getR (r := 104) hC dX9_marks_15 fk_9_86 ty_78 (fr_9_32 ty_78).1 ?_
    refine x_iload_n hC dX9_marks_18 (lm 1 rfl) ?_
    obtain ⟨ho, hp⟩ := hp
    refine s_iald hC dX9_marks_19 ((fr_9_32 ty_78).2) ho ?_
    refine x_iload_n hC dX9_marks_20 (lm 2 rfl) ?_
    refine s_callSi (avs := [.int (h_7.1 104 i1.toNatClampNeg), .int i2]) (st := []) hC dX9_marks_21 ml_9_119 ms_X9_ahead rfl (t_X9_ahead  hp) (Nat.le_of_ble_eq_true rfl) ⟨rfl, rfl⟩ ⟨Nat.le_of_ble_eq_true rfl, Nat.le_of_ble_eq_true rfl⟩ (fun v_21 h_21 hp => ?_)
    refine x_aload_n hC dX9_marks_24 (lm 0 rfl) ?_
    refine s_getR (r := 101) hC dX9_marks_25 fk_9_77 ty_78 (fr_9_29 ty_78).1 ?_
    refine x_iload_n hC dX9_marks_28 (lm 1 rfl) ?_
    obtain ⟨ho, hp⟩ := hp
    refine s_iald hC dX9_marks_29 ((fr_9_29 ty_78).2) ho ?_
    refine x_icmp_lt (tgt := 48) hC dX9_marks_30 (by decide) (fun hc => ?_) (fun hc => ?_)
    · have hp := hp.1 hc
      exact x_subk [0, 1, 2] rfl (l_X9_marks_j48 hC hE   hp)
    · have hp := hp.2 hc
      refine x_aload_n hC dX9_marks_33 (lm 0 rfl) ?_
      refine x_iload_n hC dX9_marks_34 (lm 1 rfl) ?_
      refine x_iload_n hC dX9_marks_35 (lm 2 rfl) ?_
      refine x_aload_n hC dX9_marks_36 (lm 0 rfl) ?_
      refine s_getR (r := 101) hC dX9_marks_37 fk_9_77 ty_78 (fr_9_29 ty_78).1 ?_
      refine x_iload_n hC dX9_marks_40 (lm 1 rfl) ?_
      obtain ⟨ho, hp⟩ := hp
      refine s_iald hC dX9_marks_41 ((fr_9_29 ty_78).2) ho ?_
      refine s_callSi (avs := [.int i2, .int (h_21.1 101 i1.toNatClampNeg)]) (st := [.int i1, .ref 78]) hC dX9_marks_42 ml_9_241 ms_X9_lastOf rfl (t_X9_lastOf  hp) (Nat.le_of_ble_eq_true rfl) ⟨rfl, rfl⟩ ⟨Nat.le_of_ble_eq_true rfl, Nat.le_of_ble_eq_true rfl⟩ (fun v_42 h_42 hp => ?_)
      refine s_callVv (avs := [.int i1, .int v_42]) (st := []) hC dX9_marks_45 ml_9_244 mi_X9_marksTo ty_78 rfl (t_X9_marksTo  hp) (Nat.le_of_ble_eq_true rfl) ⟨rfl, rfl⟩ ⟨Nat.le_of_ble_eq_true rfl, Nat.le_of_ble_eq_true rfl⟩ (fun h_45 hp => ?_)
      exact x_subk [0, 1, 2] rfl (l_X9_marks_j48 hC hE   hp)
  · have hp := hp.2 hc
    exact x_vret hC hE dX9_marks_13 ⟨_, rfl, rfl, hp⟩
theorem dX9_doubles_0 : decode cX9_doubles 0 = .ok (.aload_n 0, 1) := by decide +kernel
theorem dX9_doubles_1 : decode cX9_doubles 1 = .ok (.getfield 95, 3) := by decide +kernel
theorem dX9_doubles_4 : decode cX9_doubles 4 = .ok (.iload_n 1, 1) := by decide +kernel
theorem dX9_doubles_5 : decode cX9_doubles 5 = .ok (.dup2, 1) := by decide +kernel
theorem dX9_doubles_6 : decode cX9_doubles 6 = .ok (.iaload, 1) := by decide +kernel
theorem dX9_doubles_7 : decode cX9_doubles 7 = .ok (.iconst 1, 1) := by decide +kernel
theorem dX9_doubles_8 : decode cX9_doubles 8 = .ok (.iadd, 1) := by decide +kernel
theorem dX9_doubles_9 : decode cX9_doubles 9 = .ok (.iastore, 1) := by decide +kernel
theorem dX9_doubles_10 : decode cX9_doubles 10 = .ok (.aload_n 0, 1) := by decide +kernel
theorem dX9_doubles_11 : decode cX9_doubles 11 = .ok (.getfield 13, 3) := by decide +kernel
theorem dX9_doubles_14 : decode cX9_doubles 14 = .ok (.iconst 5, 1) := by decide +kernel
theorem dX9_doubles_15 : decode cX9_doubles 15 = .ok (.dup2, 1) := by decide +kernel
theorem dX9_doubles_16 : decode cX9_doubles 16 = .ok (.iaload, 1) := by decide +kernel
theorem dX9_doubles_17 : decode cX9_doubles 17 = .ok (.iconst 1, 1) := by decide +kernel
theorem dX9_doubles_18 : decode cX9_doubles 18 = .ok (.iadd, 1) := by decide +kernel
theorem dX9_doubles_19 : decode cX9_doubles 19 = .ok (.iastore, 1) := by decide +kernel
theorem dX9_doubles_20 : decode cX9_doubles 20 = .ok (.return_, 1) := by decide +kernel
abbrev rm_X9_doubles : Room := { frames := 0, cells := 0, slots := 0, locals := 0 }
def P_X9_doubles (i1 : Int32) (h : HP) (Q : HP → Prop) : Prop := (vp_in i1 4) ∧ ((vp_in i1 4) ∧ (Q (si (si h 107 i1.toNatClampNeg ((h.1 107 i1.toNatClampNeg) + 1)) 80 5 (((si h 107 i1.toNatClampNeg ((h.1 107 i1.toNatClampNeg) + 1)).1 80 5) + 1))))
set_option maxHeartbeats 4000000 in
theorem t_X9_doubles {i1 : Int32} {h : HP} {Q : HP → Prop}  (hp : P_X9_doubles i1 h Q) : MT yX9_doubles cX9_doubles 2 none rm_X9_doubles [.ref 78, .int i1] gM SH (emb h) (pV Q) := by
  refine MT.of (by decide +kernel) (Nat.le_of_ble_eq_true rfl) (fun C hC hE => ?_)
  show SW C gM 0 [(0, .ref 78), (1, .int i1)] [] h
  unfold P_X9_doubles at hp
  refine x_aload_n hC dX9_doubles_0 (lm 0 rfl) ?_
  refine s_getR (r := 107) hC dX9_doubles_1 fk_9_95 ty_78 (fr_9_35 ty_78).1 ?_
  refine x_iload_n hC dX9_doubles_4 (lm 1 rfl) ?_
  refine x_dup2 hC dX9_doubles_5 rfl rfl ?_
  obtain ⟨ho, hp⟩ := hp
  refine s_iald hC dX9_doubles_6 ((fr_9_35 ty_78).2) ho ?_
  refine x_iconst hC dX9_doubles_7 ic_1 ?_
  refine x_iadd hC dX9_doubles_8 ?_
  obtain ⟨ho, hp⟩ := hp
  refine s_iast hC dX9_doubles_9 ((fr_9_35 ty_78).2) ho ?_
  refine x_aload_n hC dX9_doubles_10 (lm 0 rfl) ?_
  refine s_getR (r := 80) hC dX9_doubles_11 fk_9_13 ty_78 (fr_9_8 ty_78).1 ?_
  refine x_iconst hC dX9_doubles_14 ic_5 ?_
  refine x_dup2 hC dX9_doubles_15 rfl rfl ?_
  refine s_iald hC dX9_doubles_16 ((fr_9_8 ty_78).2) (vi (by decide)) ?_
  refine x_iconst hC dX9_doubles_17 ic_1 ?_
  refine x_iadd hC dX9_doubles_18 ?_
  refine s_iast hC dX9_doubles_19 ((fr_9_8 ty_78).2) (vi (by decide)) ?_
  exact x_vret hC hE dX9_doubles_20 ⟨_, rfl, rfl, hp⟩
theorem dX9_comesNumber_0 : decode cX9_comesNumber 0 = .ok (.aload_n 0, 1) := by decide +kernel
theorem dX9_comesNumber_1 : decode cX9_comesNumber 1 = .ok (.iload_n 1, 1) := by decide +kernel
theorem dX9_comesNumber_2 : decode cX9_comesNumber 2 = .ok (.iload_n 2, 1) := by decide +kernel
theorem dX9_comesNumber_3 : decode cX9_comesNumber 3 = .ok (.invokevirtual 247, 3) := by decide +kernel
theorem dX9_comesNumber_6 : decode cX9_comesNumber 6 = .ok (.aload_n 0, 1) := by decide +kernel
theorem dX9_comesNumber_7 : decode cX9_comesNumber 7 = .ok (.getfield 83, 3) := by decide +kernel
theorem dX9_comesNumber_10 : decode cX9_comesNumber 10 = .ok (.iload_n 1, 1) := by decide +kernel
theorem dX9_comesNumber_11 : decode cX9_comesNumber 11 = .ok (.iaload, 1) := by decide +kernel
theorem dX9_comesNumber_12 : decode cX9_comesNumber 12 = .ok (.iload_n 2, 1) := by decide +kernel
theorem dX9_comesNumber_13 : decode cX9_comesNumber 13 = .ok (.invokestatic 238, 3) := by decide +kernel
theorem dX9_comesNumber_16 : decode cX9_comesNumber 16 = .ok (.ifCond .eq 9, 3) := by decide +kernel
theorem dX9_comesNumber_19 : decode cX9_comesNumber 19 = .ok (.aload_n 0, 1) := by decide +kernel
theorem dX9_comesNumber_20 : decode cX9_comesNumber 20 = .ok (.iload_n 1, 1) := by decide +kernel
theorem dX9_comesNumber_21 : decode cX9_comesNumber 21 = .ok (.invokevirtual 250, 3) := by decide +kernel
theorem dX9_comesNumber_24 : decode cX9_comesNumber 24 = .ok (.return_, 1) := by decide +kernel
theorem dX9_comesNumber_25 : decode cX9_comesNumber 25 = .ok (.aload_n 0, 1) := by decide +kernel
theorem dX9_comesNumber_26 : decode cX9_comesNumber 26 = .ok (.getfield 83, 3) := by decide +kernel
theorem dX9_comesNumber_29 : decode cX9_comesNumber 29 = .ok (.iload_n 1, 1) := by decide +kernel
theorem dX9_comesNumber_30 : decode cX9_comesNumber 30 = .ok (.iaload, 1) := by decide +kernel
theorem dX9_comesNumber_31 : decode cX9_comesNumber 31 = .ok (.iload_n 2, 1) := by decide +kernel
theorem dX9_comesNumber_32 : decode cX9_comesNumber 32 = .ok (.invokestatic 119, 3) := by decide +kernel
theorem dX9_comesNumber_35 : decode cX9_comesNumber 35 = .ok (.aload_n 0, 1) := by decide +kernel
theorem dX9_comesNumber_36 : decode cX9_comesNumber 36 = .ok (.getfield 77, 3) := by decide +kernel
theorem dX9_comesNumber_39 : decode cX9_comesNumber 39 = .ok (.iload_n 1, 1) := by decide +kernel
theorem dX9_comesNumber_40 : decode cX9_comesNumber 40 = .ok (.iaload, 1) := by decide +kernel
theorem dX9_comesNumber_41 : decode cX9_comesNumber 41 = .ok (.if_icmp .lt 18, 3) := by decide +kernel
theorem dX9_comesNumber_44 : decode cX9_comesNumber 44 = .ok (.aload_n 0, 1) := by decide +kernel
theorem dX9_comesNumber_45 : decode cX9_comesNumber 45 = .ok (.iload_n 1, 1) := by decide +kernel
theorem dX9_comesNumber_46 : decode cX9_comesNumber 46 = .ok (.iload_n 2, 1) := by decide +kernel
theorem dX9_comesNumber_47 : decode cX9_comesNumber 47 = .ok (.aload_n 0, 1) := by decide +kernel
theorem dX9_comesNumber_48 : decode cX9_comesNumber 48 = .ok (.getfield 77, 3) := by decide +kernel
theorem dX9_comesNumber_51 : decode cX9_comesNumber 51 = .ok (.iload_n 1, 1) := by decide +kernel
theorem dX9_comesNumber_52 : decode cX9_comesNumber 52 = .ok (.iaload, 1) := by decide +kernel
theorem dX9_comesNumber_53 : decode cX9_comesNumber 53 = .ok (.invokestatic 241, 3) := by decide +kernel
theorem dX9_comesNumber_56 : decode cX9_comesNumber 56 = .ok (.invokevirtual 253, 3) := by decide +kernel
theorem dX9_comesNumber_59 : decode cX9_comesNumber 59 = .ok (.bipush 64, 2) := by decide +kernel
theorem dX9_comesNumber_61 : decode cX9_comesNumber 61 = .ok (.iload_n 1, 1) := by decide +kernel
theorem dX9_comesNumber_62 : decode cX9_comesNumber 62 = .ok (.imul, 1) := by decide +kernel
theorem dX9_comesNumber_63 : decode cX9_comesNumber 63 = .ok (.iload_n 2, 1) := by decide +kernel
theorem dX9_comesNumber_64 : decode cX9_comesNumber 64 = .ok (.iadd, 1) := by decide +kernel
theorem dX9_comesNumber_65 : decode cX9_comesNumber 65 = .ok (.istore 4, 2) := by decide +kernel
theorem dX9_comesNumber_67 : decode cX9_comesNumber 67 = .ok (.aload_n 0, 1) := by decide +kernel
theorem dX9_comesNumber_68 : decode cX9_comesNumber 68 = .ok (.getfield 98, 3) := by decide +kernel
theorem dX9_comesNumber_71 : decode cX9_comesNumber 71 = .ok (.iload 4, 2) := by decide +kernel
theorem dX9_comesNumber_73 : decode cX9_comesNumber 73 = .ok (.iaload, 1) := by decide +kernel
theorem dX9_comesNumber_74 : decode cX9_comesNumber 74 = .ok (.iconst (-1), 1) := by decide +kernel
theorem dX9_comesNumber_75 : decode cX9_comesNumber 75 = .ok (.if_icmp .eq 11, 3) := by decide +kernel
theorem dX9_comesNumber_78 : decode cX9_comesNumber 78 = .ok (.aload_n 0, 1) := by decide +kernel
theorem dX9_comesNumber_79 : decode cX9_comesNumber 79 = .ok (.iload_n 1, 1) := by decide +kernel
theorem dX9_comesNumber_80 : decode cX9_comesNumber 80 = .ok (.invokevirtual 250, 3) := by decide +kernel
theorem dX9_comesNumber_83 : decode cX9_comesNumber 83 = .ok (.goto 38, 3) := by decide +kernel
theorem dX9_comesNumber_86 : decode cX9_comesNumber 86 = .ok (.aload_n 0, 1) := by decide +kernel
theorem dX9_comesNumber_87 : decode cX9_comesNumber 87 = .ok (.getfield 74, 3) := by decide +kernel
theorem dX9_comesNumber_90 : decode cX9_comesNumber 90 = .ok (.iload_n 1, 1) := by decide +kernel
theorem dX9_comesNumber_91 : decode cX9_comesNumber 91 = .ok (.iaload, 1) := by decide +kernel
theorem dX9_comesNumber_92 : decode cX9_comesNumber 92 = .ok (.iconst 2, 1) := by decide +kernel
theorem dX9_comesNumber_93 : decode cX9_comesNumber 93 = .ok (.if_icmp .ne 20, 3) := by decide +kernel
theorem dX9_comesNumber_96 : decode cX9_comesNumber 96 = .ok (.aload_n 0, 1) := by decide +kernel
theorem dX9_comesNumber_97 : decode cX9_comesNumber 97 = .ok (.iload_n 1, 1) := by decide +kernel
theorem dX9_comesNumber_98 : decode cX9_comesNumber 98 = .ok (.iload_n 3, 1) := by decide +kernel
theorem dX9_comesNumber_99 : decode cX9_comesNumber 99 = .ok (.invokevirtual 232, 3) := by decide +kernel
theorem dX9_comesNumber_102 : decode cX9_comesNumber 102 = .ok (.aload_n 0, 1) := by decide +kernel
theorem dX9_comesNumber_103 : decode cX9_comesNumber 103 = .ok (.getfield 98, 3) := by decide +kernel
theorem dX9_comesNumber_106 : decode cX9_comesNumber 106 = .ok (.iload 4, 2) := by decide +kernel
theorem dX9_comesNumber_108 : decode cX9_comesNumber 108 = .ok (.iconst 0, 1) := by decide +kernel
theorem dX9_comesNumber_109 : decode cX9_comesNumber 109 = .ok (.iastore, 1) := by decide +kernel
theorem dX9_comesNumber_110 : decode cX9_comesNumber 110 = .ok (.goto 11, 3) := by decide +kernel
theorem dX9_comesNumber_113 : decode cX9_comesNumber 113 = .ok (.aload_n 0, 1) := by decide +kernel
theorem dX9_comesNumber_114 : decode cX9_comesNumber 114 = .ok (.getfield 98, 3) := by decide +kernel
theorem dX9_comesNumber_117 : decode cX9_comesNumber 117 = .ok (.iload 4, 2) := by decide +kernel
theorem dX9_comesNumber_119 : decode cX9_comesNumber 119 = .ok (.iload_n 3, 1) := by decide +kernel
theorem dX9_comesNumber_120 : decode cX9_comesNumber 120 = .ok (.iastore, 1) := by decide +kernel
theorem dX9_comesNumber_121 : decode cX9_comesNumber 121 = .ok (.aload_n 0, 1) := by decide +kernel
theorem dX9_comesNumber_122 : decode cX9_comesNumber 122 = .ok (.iload_n 1, 1) := by decide +kernel
theorem dX9_comesNumber_123 : decode cX9_comesNumber 123 = .ok (.invokevirtual 256, 3) := by decide +kernel
theorem dX9_comesNumber_126 : decode cX9_comesNumber 126 = .ok (.return_, 1) := by decide +kernel
abbrev rm_X9_comesNumber : Room := { frames := 3, cells := 0, slots := 0, locals := 67 }
def P_X9_comesNumber_j59 (_q0 : Nat) (i1 : Int32) (i2 : Int32) (i3 : Int32) (h : HP)  (Q : HP → Prop) : Prop := (vp_in ((64 * i1) + i2) 256) ∧ ((((h.1 108 ((64 * i1) + i2).toNatClampNeg) = (-1)) → ((vp_in i1 4) ∧ (((¬ (h.1 100 i1.toNatClampNeg) = 2) → ((vp_in ((64 * i1) + i2) 256) ∧ (P_X9_goesOn i1 (si h 108 ((64 * i1) + i2).toNatClampNeg i3) (fun (h_123 : HP) => Q h_123)))) ∧ (((h.1 100 i1.toNatClampNeg) = 2) → (P_X9_releases i1 i3 h (fun (h_99 : HP) => (vp_in ((64 * i1) + i2) 256) ∧ (P_X9_goesOn i1 (si h_99 108 ((64 * i1) + i2).toNatClampNeg 0) (fun (h_123 : HP) => Q h_123)))))))) ∧ ((¬ (h.1 108 ((64 * i1) + i2).toNatClampNeg) = (-1)) → (P_X9_doubles i1 h (fun (h_80 : HP) => P_X9_goesOn i1 h_80 (fun (h_123 : HP) => Q h_123)))))
def P_X9_comesNumber (i1 : Int32) (i2 : Int32) (i3 : Int32) (h : HP) (Q : HP → Prop) : Prop := P_X9_marks i1 i2 h (fun (h_3 : HP) => (vp_in i1 4) ∧ (P_X9_isBehind (h_3.1 103 i1.toNatClampNeg) i2 h_3 (fun (v_13 : Int32) (h_13 : HP) => ((v_13 = 0) → ((vp_in i1 4) ∧ (P_X9_ahead (h_13.1 103 i1.toNatClampNeg) i2 h_13 (fun (v_32 : Int32) (h_32 : HP) => (vp_in i1 4) ∧ (((v_32 < (h_32.1 101 i1.toNatClampNeg)) → P_X9_comesNumber_j59 78 i1 i2 i3 h_32 Q) ∧ ((¬ v_32 < (h_32.1 101 i1.toNatClampNeg)) → ((vp_in i1 4) ∧ (P_X9_lastOf i2 (h_32.1 101 i1.toNatClampNeg) h_32 (fun (v_53 : Int32) (h_53 : HP) => P_X9_movesTo i1 v_53 h_53 (fun (h_56 : HP) => P_X9_comesNumber_j59 78 i1 i2 i3 h_56 Q)))))))))) ∧ ((¬ v_13 = 0) → (P_X9_doubles i1 h_13 (fun (h_21 : HP) => Q h_21))))))
set_option maxHeartbeats 4000000 in
theorem l_X9_comesNumber_j59 {i1 : Int32} {i2 : Int32} {i3 : Int32} {h : HP}  {Q : HP → Prop} {C : Cx} (hC : xOk C cX9_comesNumber yX9_comesNumber.cls 5 rm_X9_comesNumber none) (hE : xEnd C gM SH (pV Q))   (hp : P_X9_comesNumber_j59 78 i1 i2 i3 h  Q) : SW C gM 59 [(0, .ref 78), (1, .int i1), (2, .int i2), (3, .int i3)] [] h := by
  unfold P_X9_comesNumber_j59 at hp
  refine x_bipush hC dX9_comesNumber_59 bp_64 ?_
  refine x_iload_n hC dX9_comesNumber_61 (lm 1 rfl) ?_
  refine x_imul hC dX9_comesNumber_62 ?_
  refine x_iload_n hC dX9_comesNumber_63 (lm 2 rfl) ?_
  refine x_iadd hC dX9_comesNumber_64 ?_
  refine x_istore (lv' := [(4, .int ((64 * i1) + i2)), (0, .ref 78), (1, .int i1), (2, .int i2), (3, .int i3)]) hC dX9_comesNumber_65 (by decide) rfl ?_
  refine x_aload_n hC dX9_comesNumber_67 (lm 1 rfl) ?_
  refine s_getR (r := 108) hC dX9_comesNumber_68 fk_9_98 ty_78 (fr_9_36 ty_78).1 ?_
  refine x_iload hC dX9_comesNumber_71 (lm 0 rfl) ?_
  obtain ⟨ho, hp⟩ := hp
  refine s_iald hC dX9_comesNumber_73 ((fr_9_36 ty_78).2) ho ?_
  refine x_iconst hC dX9_comesNumber_74 ic_m1 ?_
  refine x_icmp_eq (tgt := 86) hC dX9_comesNumber_75 (by decide) (fun hc => ?_) (fun hc => ?_)
  · have hp := hp.1 hc
    refine x_aload_n hC dX9_comesNumber_86 (lm 1 rfl) ?_
    refine s_getR (r := 100) hC dX9_comesNumber_87 fk_9_74 ty_78 (fr_9_28 ty_78).1 ?_
    refine x_iload_n hC dX9_comesNumber_90 (lm 2 rfl) ?_
    obtain ⟨ho, hp⟩ := hp
    refine s_iald hC dX9_comesNumber_91 ((fr_9_28 ty_78).2) ho ?_
    refine x_iconst hC dX9_comesNumber_92 ic_2 ?_
    refine x_icmp_ne (tgt := 113) hC dX9_comesNumber_93 (by decide) (fun hc => ?_) (fun hc => ?_)
    · have hp := hp.1 hc
      refine x_aload_n hC dX9_comesNumber_113 (lm 1 rfl) ?_
      refine s_getR (r := 108) hC dX9_comesNumber_114 fk_9_98 ty_78 (fr_9_36 ty_78).1 ?_
      refine x_iload hC dX9_comesNumber_117 (lm 0 rfl) ?_
      refine x_iload_n hC dX9_comesNumber_119 (lm 4 rfl) ?_
      obtain ⟨ho, hp⟩ := hp
      refine s_iast hC dX9_comesNumber_120 ((fr_9_36 ty_78).2) ho ?_
      refine x_aload_n hC dX9_comesNumber_121 (lm 1 rfl) ?_
      refine x_iload_n hC dX9_comesNumber_122 (lm 2 rfl) ?_
      refine s_callVv (avs := [.int i1]) (st := []) hC dX9_comesNumber_123 ml_9_256 mi_X9_goesOn ty_78 rfl (t_X9_goesOn  hp) (Nat.le_of_ble_eq_true rfl) ⟨rfl, rfl⟩ ⟨Nat.le_of_ble_eq_true rfl, Nat.le_of_ble_eq_true rfl⟩ (fun h_123 hp => ?_)
      exact x_vret hC hE dX9_comesNumber_126 ⟨_, rfl, rfl, hp⟩
    · have hp := hp.2 hc
      refine x_aload_n hC dX9_comesNumber_96 (lm 1 rfl) ?_
      refine x_iload_n hC dX9_comesNumber_97 (lm 2 rfl) ?_
      refine x_iload_n hC dX9_comesNumber_98 (lm 4 rfl) ?_
      refine s_callVv (avs := [.int i1, .int i3]) (st := []) hC dX9_comesNumber_99 ml_9_232 mi_X9_releases ty_78 rfl (t_X9_releases  hp) (Nat.le_of_ble_eq_true rfl) ⟨rfl, rfl⟩ ⟨Nat.le_of_ble_eq_true rfl, Nat.le_of_ble_eq_true rfl⟩ (fun h_99 hp => ?_)
      refine x_aload_n hC dX9_comesNumber_102 (lm 1 rfl) ?_
      refine s_getR (r := 108) hC dX9_comesNumber_103 fk_9_98 ty_78 (fr_9_36 ty_78).1 ?_
      refine x_iload hC dX9_comesNumber_106 (lm 0 rfl) ?_
      refine x_iconst hC dX9_comesNumber_108 ic_0 ?_
      obtain ⟨ho, hp⟩ := hp
      refine s_iast hC dX9_comesNumber_109 ((fr_9_36 ty_78).2) ho ?_
      refine x_goto (tgt := 121) hC dX9_comesNumber_110 (by decide) ?_
      refine x_aload_n hC dX9_comesNumber_121 (lm 1 rfl) ?_
      refine x_iload_n hC dX9_comesNumber_122 (lm 2 rfl) ?_
      refine s_callVv (avs := [.int i1]) (st := []) hC dX9_comesNumber_123 ml_9_256 mi_X9_goesOn ty_78 rfl (t_X9_goesOn  hp) (Nat.le_of_ble_eq_true rfl) ⟨rfl, rfl⟩ ⟨Nat.le_of_ble_eq_true rfl, Nat.le_of_ble_eq_true rfl⟩ (fun h_123 hp => ?_)
      exact x_vret hC hE dX9_comesNumber_126 ⟨_, rfl, rfl, hp⟩
  · have hp := hp.2 hc
    refine x_aload_n hC dX9_comesNumber_78 (lm 1 rfl) ?_
    refine x_iload_n hC dX9_comesNumber_79 (lm 2 rfl) ?_
    refine s_callVv (avs := [.int i1]) (st := []) hC dX9_comesNumber_80 ml_9_250 mi_X9_doubles ty_78 rfl (t_X9_doubles  hp) (Nat.le_of_ble_eq_true rfl) ⟨rfl, rfl⟩ ⟨Nat.le_of_ble_eq_true rfl, Nat.le_of_ble_eq_true rfl⟩ (fun h_80 hp => ?_)
    refine x_goto (tgt := 121) hC dX9_comesNumber_83 (by decide) ?_
    refine x_aload_n hC dX9_comesNumber_121 (lm 1 rfl) ?_
    refine x_iload_n hC dX9_comesNumber_122 (lm 2 rfl) ?_
    refine s_callVv (avs := [.int i1]) (st := []) hC dX9_comesNumber_123 ml_9_256 mi_X9_goesOn ty_78 rfl (t_X9_goesOn  hp) (Nat.le_of_ble_eq_true rfl) ⟨rfl, rfl⟩ ⟨Nat.le_of_ble_eq_true rfl, Nat.le_of_ble_eq_true rfl⟩ (fun h_123 hp => ?_)
    exact x_vret hC hE dX9_comesNumber_126 ⟨_, rfl, rfl, hp⟩
set_option maxHeartbeats 4000000 in
theorem t_X9_comesNumber {i1 : Int32} {i2 : Int32} {i3 : Int32} {h : HP} {Q : HP → Prop}  (hp : P_X9_comesNumber i1 i2 i3 h Q) : MT yX9_comesNumber cX9_comesNumber 5 none rm_X9_comesNumber [.ref 78, .int i1, .int i2, .int i3] gM SH (emb h) (pV Q) := by
  refine MT.of (by decide +kernel) (Nat.le_of_ble_eq_true rfl) (fun C hC hE => ?_)
  show SW C gM 0 [(0, .ref 78), (1, .int i1), (2, .int i2), (3, .int i3)] [] h
  unfold P_X9_comesNumber at hp
  refine x_aload_n hC dX9_comesNumber_0 (lm 0 rfl) ?_
  refine x_iload_n hC dX9_comesNumber_1 (lm 1 rfl) ?_
  refine x_iload_n hC dX9_comesNumber_2 (lm 2 rfl) ?_
  refine s_callVv (avs := [.int i1, .int i2]) (st := []) hC dX9_comesNumber_3 ml_9_247 mi_X9_marks ty_78 rfl (t_X9_marks  hp) (Nat.le_of_ble_eq_true rfl) ⟨rfl, rfl⟩ ⟨Nat.le_of_ble_eq_true rfl, Nat.le_of_ble_eq_true rfl⟩ (fun h_3 hp => ?_)
  refine x_aload_n hC dX9_comesNumber_6 (lm 0 rfl) ?_
  refine s_getR (r := 103) hC dX9_comesNumber_7 fk_9_83 ty_78 (fr_9_31 ty_78).1 ?_
  refine x_iload_n hC dX9_comesNumber_10 (lm 1 rfl) ?_
  obtain ⟨ho, hp⟩ := hp
  refine s_iald hC dX9_comesNumber_11 ((fr_9_31 ty_78).2) ho ?_
  refine x_iload_n hC dX9_comesNumber_12 (lm 2 rfl) ?_
  refine s_callSi (avs := [.int (h_3.1 103 i1.toNatClampNeg), .int i2]) (st := []) hC dX9_comesNumber_13 ml_9_238 ms_X9_isBehind rfl (t_X9_isBehind  hp) (Nat.le_of_ble_eq_true rfl) ⟨rfl, rfl⟩ ⟨Nat.le_of_ble_eq_true rfl, Nat.le_of_ble_eq_true rfl⟩ (fun v_13 h_13 hp => ?_)
  refine x_if_eq (tgt := 25) hC dX9_comesNumber_16 (by decide) (fun hc => ?_) (fun hc => ?_)
  · have hp := hp.1 hc
    refine x_aload_n hC dX9_comesNumber_25 (lm 0 rfl) ?_
    refine s_getR (r := 103) hC dX9_comesNumber_26 fk_9_83 ty_78 (fr_9_31 ty_78).1 ?_
    refine x_iload_n hC dX9_comesNumber_29 (lm 1 rfl) ?_
    obtain ⟨ho, hp⟩ := hp
    refine s_iald hC dX9_comesNumber_30 ((fr_9_31 ty_78).2) ho ?_
    refine x_iload_n hC dX9_comesNumber_31 (lm 2 rfl) ?_
    refine s_callSi (avs := [.int (h_13.1 103 i1.toNatClampNeg), .int i2]) (st := []) hC dX9_comesNumber_32 ml_9_119 ms_X9_ahead rfl (t_X9_ahead  hp) (Nat.le_of_ble_eq_true rfl) ⟨rfl, rfl⟩ ⟨Nat.le_of_ble_eq_true rfl, Nat.le_of_ble_eq_true rfl⟩ (fun v_32 h_32 hp => ?_)
    refine x_aload_n hC dX9_comesNumber_35 (lm 0 rfl) ?_
    refine s_getR (r := 101) hC dX9_comesNumber_36 fk_9_77 ty_78 (fr_9_29 ty_78).1 ?_
    refine x_iload_n hC dX9_comesNumber_39 (lm 1 rfl) ?_
    obtain ⟨ho, hp⟩ := hp
    refine s_iald hC dX9_comesNumber_40 ((fr_9_29 ty_78).2) ho ?_
    refine x_icmp_lt (tgt := 59) hC dX9_comesNumber_41 (by decide) (fun hc => ?_) (fun hc => ?_)
    · have hp := hp.1 hc
      exact x_subk [0, 1, 2, 3] rfl (l_X9_comesNumber_j59 hC hE   hp)
    · have hp := hp.2 hc
      refine x_aload_n hC dX9_comesNumber_44 (lm 0 rfl) ?_
      refine x_iload_n hC dX9_comesNumber_45 (lm 1 rfl) ?_
      refine x_iload_n hC dX9_comesNumber_46 (lm 2 rfl) ?_
      refine x_aload_n hC dX9_comesNumber_47 (lm 0 rfl) ?_
      refine s_getR (r := 101) hC dX9_comesNumber_48 fk_9_77 ty_78 (fr_9_29 ty_78).1 ?_
      refine x_iload_n hC dX9_comesNumber_51 (lm 1 rfl) ?_
      obtain ⟨ho, hp⟩ := hp
      refine s_iald hC dX9_comesNumber_52 ((fr_9_29 ty_78).2) ho ?_
      refine s_callSi (avs := [.int i2, .int (h_32.1 101 i1.toNatClampNeg)]) (st := [.int i1, .ref 78]) hC dX9_comesNumber_53 ml_9_241 ms_X9_lastOf rfl (t_X9_lastOf  hp) (Nat.le_of_ble_eq_true rfl) ⟨rfl, rfl⟩ ⟨Nat.le_of_ble_eq_true rfl, Nat.le_of_ble_eq_true rfl⟩ (fun v_53 h_53 hp => ?_)
      refine s_callVv (avs := [.int i1, .int v_53]) (st := []) hC dX9_comesNumber_56 ml_9_253 mi_X9_movesTo ty_78 rfl (t_X9_movesTo  hp) (Nat.le_of_ble_eq_true rfl) ⟨rfl, rfl⟩ ⟨Nat.le_of_ble_eq_true rfl, Nat.le_of_ble_eq_true rfl⟩ (fun h_56 hp => ?_)
      exact x_subk [0, 1, 2, 3] rfl (l_X9_comesNumber_j59 hC hE   hp)
  · have hp := hp.2 hc
    refine x_aload_n hC dX9_comesNumber_19 (lm 0 rfl) ?_
    refine x_iload_n hC dX9_comesNumber_20 (lm 1 rfl) ?_
    refine s_callVv (avs := [.int i1]) (st := []) hC dX9_comesNumber_21 ml_9_250 mi_X9_doubles ty_78 rfl (t_X9_doubles  hp) (Nat.le_of_ble_eq_true rfl) ⟨rfl, rfl⟩ ⟨Nat.le_of_ble_eq_true rfl, Nat.le_of_ble_eq_true rfl⟩ (fun h_21 hp => ?_)
    exact x_vret hC hE dX9_comesNumber_24 ⟨_, rfl, rfl, hp⟩
theorem dX9_ends_0 : decode cX9_ends 0 = .ok (.aload_n 0, 1) := by decide +kernel
theorem dX9_ends_1 : decode cX9_ends 1 = .ok (.getfield 71, 3) := by decide +kernel
theorem dX9_ends_4 : decode cX9_ends 4 = .ok (.iload_n 1, 1) := by decide +kernel
theorem dX9_ends_5 : decode cX9_ends 5 = .ok (.baload, 1) := by decide +kernel
theorem dX9_ends_6 : decode cX9_ends 6 = .ok (.ifCond .ne 4, 3) := by decide +kernel
theorem dX9_ends_9 : decode cX9_ends 9 = .ok (.return_, 1) := by decide +kernel
theorem dX9_ends_10 : decode cX9_ends 10 = .ok (.iconst 0, 1) := by decide +kernel
theorem dX9_ends_11 : decode cX9_ends 11 = .ok (.istore_n 2, 1) := by decide +kernel
theorem dX9_ends_12 : decode cX9_ends 12 = .ok (.iload_n 2, 1) := by decide +kernel
theorem dX9_ends_13 : decode cX9_ends 13 = .ok (.aload_n 0, 1) := by decide +kernel
theorem dX9_ends_14 : decode cX9_ends 14 = .ok (.getfield 77, 3) := by decide +kernel
theorem dX9_ends_17 : decode cX9_ends 17 = .ok (.iload_n 1, 1) := by decide +kernel
theorem dX9_ends_18 : decode cX9_ends 18 = .ok (.iaload, 1) := by decide +kernel
theorem dX9_ends_19 : decode cX9_ends 19 = .ok (.if_icmp .ge 41, 3) := by decide +kernel
theorem dX9_ends_22 : decode cX9_ends 22 = .ok (.aload_n 0, 1) := by decide +kernel
theorem dX9_ends_23 : decode cX9_ends 23 = .ok (.getfield 98, 3) := by decide +kernel
theorem dX9_ends_26 : decode cX9_ends 26 = .ok (.bipush 64, 2) := by decide +kernel
theorem dX9_ends_28 : decode cX9_ends 28 = .ok (.iload_n 1, 1) := by decide +kernel
theorem dX9_ends_29 : decode cX9_ends 29 = .ok (.imul, 1) := by decide +kernel
theorem dX9_ends_30 : decode cX9_ends 30 = .ok (.aload_n 0, 1) := by decide +kernel
theorem dX9_ends_31 : decode cX9_ends 31 = .ok (.getfield 83, 3) := by decide +kernel
theorem dX9_ends_34 : decode cX9_ends 34 = .ok (.iload_n 1, 1) := by decide +kernel
theorem dX9_ends_35 : decode cX9_ends 35 = .ok (.iaload, 1) := by decide +kernel
theorem dX9_ends_36 : decode cX9_ends 36 = .ok (.iload_n 2, 1) := by decide +kernel
theorem dX9_ends_37 : decode cX9_ends 37 = .ok (.iadd, 1) := by decide +kernel
theorem dX9_ends_38 : decode cX9_ends 38 = .ok (.bipush 64, 2) := by decide +kernel
theorem dX9_ends_40 : decode cX9_ends 40 = .ok (.irem, 1) := by decide +kernel
theorem dX9_ends_41 : decode cX9_ends 41 = .ok (.iadd, 1) := by decide +kernel
theorem dX9_ends_42 : decode cX9_ends 42 = .ok (.iaload, 1) := by decide +kernel
theorem dX9_ends_43 : decode cX9_ends 43 = .ok (.istore_n 3, 1) := by decide +kernel
theorem dX9_ends_44 : decode cX9_ends 44 = .ok (.iload_n 3, 1) := by decide +kernel
theorem dX9_ends_45 : decode cX9_ends 45 = .ok (.ifCond .le 9, 3) := by decide +kernel
theorem dX9_ends_48 : decode cX9_ends 48 = .ok (.aload_n 0, 1) := by decide +kernel
theorem dX9_ends_49 : decode cX9_ends 49 = .ok (.iload_n 1, 1) := by decide +kernel
theorem dX9_ends_50 : decode cX9_ends 50 = .ok (.iload_n 3, 1) := by decide +kernel
theorem dX9_ends_51 : decode cX9_ends 51 = .ok (.invokevirtual 232, 3) := by decide +kernel
theorem dX9_ends_54 : decode cX9_ends 54 = .ok (.iinc 2 1, 3) := by decide +kernel
theorem dX9_ends_57 : decode cX9_ends 57 = .ok (.goto (-45), 3) := by decide +kernel
theorem dX9_ends_60 : decode cX9_ends 60 = .ok (.aload_n 0, 1) := by decide +kernel
theorem dX9_ends_61 : decode cX9_ends 61 = .ok (.getfield 71, 3) := by decide +kernel
theorem dX9_ends_64 : decode cX9_ends 64 = .ok (.iload_n 1, 1) := by decide +kernel
theorem dX9_ends_65 : decode cX9_ends 65 = .ok (.iconst 0, 1) := by decide +kernel
theorem dX9_ends_66 : decode cX9_ends 66 = .ok (.bastore, 1) := by decide +kernel
theorem dX9_ends_67 : decode cX9_ends 67 = .ok (.return_, 1) := by decide +kernel
abbrev rm_X9_ends : Room := { frames := 1, cells := 0, slots := 0, locals := 23 }
def P_X9_ends (i1 : Int32) (h : HP) (Q : HP → Prop) : Prop := (vp_in i1 4) ∧ (((¬ (h.1 99 i1.toNatClampNeg) = 0) → (Lp2 (fun X_12 (i2_12 : Int32) (h_12 : HP) => (vp_in i1 4) ∧ ((((h_12.1 101 i1.toNatClampNeg) ≤ i2_12) → ((vp_in i1 4) ∧ (Q (si h_12 99 i1.toNatClampNeg 0)))) ∧ ((¬ (h_12.1 101 i1.toNatClampNeg) ≤ i2_12) → ((vp_in i1 4) ∧ ((vp_in ((64 * i1) + (((h_12.1 103 i1.toNatClampNeg) + i2_12) - ((h_12.1 103 i1.toNatClampNeg) + i2_12) / 64 * 64)) 256) ∧ ((((h_12.1 108 ((64 * i1) + (((h_12.1 103 i1.toNatClampNeg) + i2_12) - ((h_12.1 103 i1.toNatClampNeg) + i2_12) / 64 * 64)).toNatClampNeg) ≤ 0) → (X_12 (i2_12 + 1) h_12)) ∧ ((¬ (h_12.1 108 ((64 * i1) + (((h_12.1 103 i1.toNatClampNeg) + i2_12) - ((h_12.1 103 i1.toNatClampNeg) + i2_12) / 64 * 64)).toNatClampNeg) ≤ 0) → (P_X9_releases i1 (h_12.1 108 ((64 * i1) + (((h_12.1 103 i1.toNatClampNeg) + i2_12) - ((h_12.1 103 i1.toNatClampNeg) + i2_12) / 64 * 64)).toNatClampNeg) h_12 (fun (h_51 : HP) => X_12 (i2_12 + 1) h_51))))))))) 0 h)) ∧ (((h.1 99 i1.toNatClampNeg) = 0) → Q h))
set_option maxHeartbeats 4000000 in
theorem t_X9_ends {i1 : Int32} {h : HP} {Q : HP → Prop}  (hp : P_X9_ends i1 h Q) : MT yX9_ends cX9_ends 4 none rm_X9_ends [.ref 78, .int i1] gM SH (emb h) (pV Q) := by
  refine MT.of (by decide +kernel) (Nat.le_of_ble_eq_true rfl) (fun C hC hE => ?_)
  show SW C gM 0 [(0, .ref 78), (1, .int i1)] [] h
  unfold P_X9_ends at hp
  refine x_aload_n hC dX9_ends_0 (lm 0 rfl) ?_
  refine s_getR (r := 99) hC dX9_ends_1 fk_9_71 ty_78 (fr_9_27 ty_78).1 ?_
  refine x_iload_n hC dX9_ends_4 (lm 1 rfl) ?_
  obtain ⟨ho, hp⟩ := hp
  refine s_zald hC dX9_ends_5 ((fr_9_27 ty_78).2) ho ?_
  refine x_if_ne (tgt := 10) hC dX9_ends_6 (by decide) (fun hc => ?_) (fun hc => ?_)
  · have hp := hp.1 hc
    refine x_iconst hC dX9_ends_10 ic_0 ?_
    refine x_istore_n (lv' := [(2, .int 0), (0, .ref 78), (1, .int i1)]) hC dX9_ends_11 (by decide) rfl ?_
    refine x_subk (lv' := [(0, .ref 78), (1, .int i1), (2, .int 0)]) [1, 2, 0] rfl ?_
    refine hp (fun i2_12 h_12 => SW C gM 12 [(0, .ref 78), (1, .int i1), (2, .int i2_12)] [] h_12) (fun i2_12 h_12 hp => ?_)
    refine x_iload_n hC dX9_ends_12 (lm 2 rfl) ?_
    refine x_aload_n hC dX9_ends_13 (lm 0 rfl) ?_
    refine s_getR (r := 101) hC dX9_ends_14 fk_9_77 ty_78 (fr_9_29 ty_78).1 ?_
    refine x_iload_n hC dX9_ends_17 (lm 1 rfl) ?_
    obtain ⟨ho, hp⟩ := hp
    refine s_iald hC dX9_ends_18 ((fr_9_29 ty_78).2) ho ?_
    refine x_icmp_ge (tgt := 60) hC dX9_ends_19 (by decide) (fun hc => ?_) (fun hc => ?_)
    · have hp := hp.1 hc
      refine x_aload_n hC dX9_ends_60 (lm 0 rfl) ?_
      refine s_getR (r := 99) hC dX9_ends_61 fk_9_71 ty_78 (fr_9_27 ty_78).1 ?_
      refine x_iload_n hC dX9_ends_64 (lm 1 rfl) ?_
      refine x_iconst hC dX9_ends_65 ic_0 ?_
      obtain ⟨ho, hp⟩ := hp
      refine s_zast (y := 0) hC dX9_ends_66 ((fr_9_27 ty_78).2) ho (by decide) ?_
      exact x_vret hC hE dX9_ends_67 ⟨_, rfl, rfl, hp⟩
    · have hp := hp.2 hc
      refine x_aload_n hC dX9_ends_22 (lm 0 rfl) ?_
      refine s_getR (r := 108) hC dX9_ends_23 fk_9_98 ty_78 (fr_9_36 ty_78).1 ?_
      refine x_bipush hC dX9_ends_26 bp_64 ?_
      refine x_iload_n hC dX9_ends_28 (lm 1 rfl) ?_
      refine x_imul hC dX9_ends_29 ?_
      refine x_aload_n hC dX9_ends_30 (lm 0 rfl) ?_
      refine s_getR (r := 103) hC dX9_ends_31 fk_9_83 ty_78 (fr_9_31 ty_78).1 ?_
      refine x_iload_n hC dX9_ends_34 (lm 1 rfl) ?_
      obtain ⟨ho, hp⟩ := hp
      refine s_iald hC dX9_ends_35 ((fr_9_31 ty_78).2) ho ?_
      refine x_iload_n hC dX9_ends_36 (lm 2 rfl) ?_
      refine x_iadd hC dX9_ends_37 ?_
      refine x_bipush hC dX9_ends_38 bp_64 ?_
      refine x_irem hC dX9_ends_40 (by decide) ?_
      refine x_iadd hC dX9_ends_41 ?_
      obtain ⟨ho, hp⟩ := hp
      refine s_iald hC dX9_ends_42 ((fr_9_36 ty_78).2) ho ?_
      refine x_istore_n (lv' := [(3, .int (h_12.1 108 ((64 * i1) + (((h_12.1 103 i1.toNatClampNeg) + i2_12) - ((h_12.1 103 i1.toNatClampNeg) + i2_12) / 64 * 64)).toNatClampNeg)), (0, .ref 78), (1, .int i1), (2, .int i2_12)]) hC dX9_ends_43 (by decide) rfl ?_
      refine x_iload_n hC dX9_ends_44 (lm 0 rfl) ?_
      refine x_if_le (tgt := 54) hC dX9_ends_45 (by decide) (fun hc => ?_) (fun hc => ?_)
      · have hp := hp.1 hc
        refine x_iinc (u := i2_12 + 1) (lv' := [(2, .int (i2_12 + 1)), (3, .int (h_12.1 108 ((64 * i1) + (((h_12.1 103 i1.toNatClampNeg) + i2_12) - ((h_12.1 103 i1.toNatClampNeg) + i2_12) / 64 * 64)).toNatClampNeg)), (0, .ref 78), (1, .int i1)]) hC dX9_ends_54 (lm 3 rfl) (congrArg _ ic_1) (by decide) rfl ?_
        refine x_goto (tgt := 12) hC dX9_ends_57 (by decide) ?_
        exact x_subk [2, 3, 0] rfl hp
      · have hp := hp.2 hc
        refine x_aload_n hC dX9_ends_48 (lm 1 rfl) ?_
        refine x_iload_n hC dX9_ends_49 (lm 2 rfl) ?_
        refine x_iload_n hC dX9_ends_50 (lm 0 rfl) ?_
        refine s_callVv (avs := [.int i1, .int (h_12.1 108 ((64 * i1) + (((h_12.1 103 i1.toNatClampNeg) + i2_12) - ((h_12.1 103 i1.toNatClampNeg) + i2_12) / 64 * 64)).toNatClampNeg)]) (st := []) hC dX9_ends_51 ml_9_232 mi_X9_releases ty_78 rfl (t_X9_releases  hp) (Nat.le_of_ble_eq_true rfl) ⟨rfl, rfl⟩ ⟨Nat.le_of_ble_eq_true rfl, Nat.le_of_ble_eq_true rfl⟩ (fun h_51 hp => ?_)
        refine x_iinc (u := i2_12 + 1) (lv' := [(2, .int (i2_12 + 1)), (3, .int (h_12.1 108 ((64 * i1) + (((h_12.1 103 i1.toNatClampNeg) + i2_12) - ((h_12.1 103 i1.toNatClampNeg) + i2_12) / 64 * 64)).toNatClampNeg)), (0, .ref 78), (1, .int i1)]) hC dX9_ends_54 (lm 3 rfl) (congrArg _ ic_1) (by decide) rfl ?_
        refine x_goto (tgt := 12) hC dX9_ends_57 (by decide) ?_
        exact x_subk [2, 3, 0] rfl hp
  · have hp := hp.2 hc
    exact x_vret hC hE dX9_ends_9 ⟨_, rfl, rfl, hp⟩
theorem dX9_comesAsk_0 : decode cX9_comesAsk 0 = .ok (.aload_n 0, 1) := by decide +kernel
theorem dX9_comesAsk_1 : decode cX9_comesAsk 1 = .ok (.iload_n 1, 1) := by decide +kernel
theorem dX9_comesAsk_2 : decode cX9_comesAsk 2 = .ok (.invokevirtual 259, 3) := by decide +kernel
theorem dX9_comesAsk_5 : decode cX9_comesAsk 5 = .ok (.aload_n 0, 1) := by decide +kernel
theorem dX9_comesAsk_6 : decode cX9_comesAsk 6 = .ok (.getfield 71, 3) := by decide +kernel
theorem dX9_comesAsk_9 : decode cX9_comesAsk 9 = .ok (.iload_n 1, 1) := by decide +kernel
theorem dX9_comesAsk_10 : decode cX9_comesAsk 10 = .ok (.iconst 1, 1) := by decide +kernel
theorem dX9_comesAsk_11 : decode cX9_comesAsk 11 = .ok (.bastore, 1) := by decide +kernel
theorem dX9_comesAsk_12 : decode cX9_comesAsk 12 = .ok (.aload_n 0, 1) := by decide +kernel
theorem dX9_comesAsk_13 : decode cX9_comesAsk 13 = .ok (.getfield 74, 3) := by decide +kernel
theorem dX9_comesAsk_16 : decode cX9_comesAsk 16 = .ok (.iload_n 1, 1) := by decide +kernel
theorem dX9_comesAsk_17 : decode cX9_comesAsk 17 = .ok (.iload_n 2, 1) := by decide +kernel
theorem dX9_comesAsk_18 : decode cX9_comesAsk 18 = .ok (.iastore, 1) := by decide +kernel
theorem dX9_comesAsk_19 : decode cX9_comesAsk 19 = .ok (.aload_n 0, 1) := by decide +kernel
theorem dX9_comesAsk_20 : decode cX9_comesAsk 20 = .ok (.getfield 77, 3) := by decide +kernel
theorem dX9_comesAsk_23 : decode cX9_comesAsk 23 = .ok (.iload_n 1, 1) := by decide +kernel
theorem dX9_comesAsk_24 : decode cX9_comesAsk 24 = .ok (.iload_n 3, 1) := by decide +kernel
theorem dX9_comesAsk_25 : decode cX9_comesAsk 25 = .ok (.bipush 12, 2) := by decide +kernel
theorem dX9_comesAsk_27 : decode cX9_comesAsk 27 = .ok (.if_icmp .ge 7, 3) := by decide +kernel
theorem dX9_comesAsk_30 : decode cX9_comesAsk 30 = .ok (.iload_n 3, 1) := by decide +kernel
theorem dX9_comesAsk_31 : decode cX9_comesAsk 31 = .ok (.goto 5, 3) := by decide +kernel
theorem dX9_comesAsk_34 : decode cX9_comesAsk 34 = .ok (.bipush 12, 2) := by decide +kernel
theorem dX9_comesAsk_36 : decode cX9_comesAsk 36 = .ok (.iastore, 1) := by decide +kernel
theorem dX9_comesAsk_37 : decode cX9_comesAsk 37 = .ok (.aload_n 0, 1) := by decide +kernel
theorem dX9_comesAsk_38 : decode cX9_comesAsk 38 = .ok (.getfield 80, 3) := by decide +kernel
theorem dX9_comesAsk_41 : decode cX9_comesAsk 41 = .ok (.iload_n 1, 1) := by decide +kernel
theorem dX9_comesAsk_42 : decode cX9_comesAsk 42 = .ok (.iload 4, 2) := by decide +kernel
theorem dX9_comesAsk_44 : decode cX9_comesAsk 44 = .ok (.iastore, 1) := by decide +kernel
theorem dX9_comesAsk_45 : decode cX9_comesAsk 45 = .ok (.aload_n 0, 1) := by decide +kernel
theorem dX9_comesAsk_46 : decode cX9_comesAsk 46 = .ok (.getfield 83, 3) := by decide +kernel
theorem dX9_comesAsk_49 : decode cX9_comesAsk 49 = .ok (.iload_n 1, 1) := by decide +kernel
theorem dX9_comesAsk_50 : decode cX9_comesAsk 50 = .ok (.iconst 0, 1) := by decide +kernel
theorem dX9_comesAsk_51 : decode cX9_comesAsk 51 = .ok (.iastore, 1) := by decide +kernel
theorem dX9_comesAsk_52 : decode cX9_comesAsk 52 = .ok (.aload_n 0, 1) := by decide +kernel
theorem dX9_comesAsk_53 : decode cX9_comesAsk 53 = .ok (.getfield 86, 3) := by decide +kernel
theorem dX9_comesAsk_56 : decode cX9_comesAsk 56 = .ok (.iload_n 1, 1) := by decide +kernel
theorem dX9_comesAsk_57 : decode cX9_comesAsk 57 = .ok (.iconst 0, 1) := by decide +kernel
theorem dX9_comesAsk_58 : decode cX9_comesAsk 58 = .ok (.iastore, 1) := by decide +kernel
theorem dX9_comesAsk_59 : decode cX9_comesAsk 59 = .ok (.aload_n 0, 1) := by decide +kernel
theorem dX9_comesAsk_60 : decode cX9_comesAsk 60 = .ok (.getfield 89, 3) := by decide +kernel
theorem dX9_comesAsk_63 : decode cX9_comesAsk 63 = .ok (.iload_n 1, 1) := by decide +kernel
theorem dX9_comesAsk_64 : decode cX9_comesAsk 64 = .ok (.iconst 0, 1) := by decide +kernel
theorem dX9_comesAsk_65 : decode cX9_comesAsk 65 = .ok (.iastore, 1) := by decide +kernel
theorem dX9_comesAsk_66 : decode cX9_comesAsk 66 = .ok (.aload_n 0, 1) := by decide +kernel
theorem dX9_comesAsk_67 : decode cX9_comesAsk 67 = .ok (.getfield 92, 3) := by decide +kernel
theorem dX9_comesAsk_70 : decode cX9_comesAsk 70 = .ok (.iload_n 1, 1) := by decide +kernel
theorem dX9_comesAsk_71 : decode cX9_comesAsk 71 = .ok (.iconst 0, 1) := by decide +kernel
theorem dX9_comesAsk_72 : decode cX9_comesAsk 72 = .ok (.iastore, 1) := by decide +kernel
theorem dX9_comesAsk_73 : decode cX9_comesAsk 73 = .ok (.aload_n 0, 1) := by decide +kernel
theorem dX9_comesAsk_74 : decode cX9_comesAsk 74 = .ok (.getfield 95, 3) := by decide +kernel
theorem dX9_comesAsk_77 : decode cX9_comesAsk 77 = .ok (.iload_n 1, 1) := by decide +kernel
theorem dX9_comesAsk_78 : decode cX9_comesAsk 78 = .ok (.iconst 0, 1) := by decide +kernel
theorem dX9_comesAsk_79 : decode cX9_comesAsk 79 = .ok (.iastore, 1) := by decide +kernel
theorem dX9_comesAsk_80 : decode cX9_comesAsk 80 = .ok (.iconst 0, 1) := by decide +kernel
theorem dX9_comesAsk_81 : decode cX9_comesAsk 81 = .ok (.istore 5, 2) := by decide +kernel
theorem dX9_comesAsk_83 : decode cX9_comesAsk 83 = .ok (.iload 5, 2) := by decide +kernel
theorem dX9_comesAsk_85 : decode cX9_comesAsk 85 = .ok (.bipush 64, 2) := by decide +kernel
theorem dX9_comesAsk_87 : decode cX9_comesAsk 87 = .ok (.if_icmp .ge 22, 3) := by decide +kernel
theorem dX9_comesAsk_90 : decode cX9_comesAsk 90 = .ok (.aload_n 0, 1) := by decide +kernel
theorem dX9_comesAsk_91 : decode cX9_comesAsk 91 = .ok (.getfield 98, 3) := by decide +kernel
theorem dX9_comesAsk_94 : decode cX9_comesAsk 94 = .ok (.bipush 64, 2) := by decide +kernel
theorem dX9_comesAsk_96 : decode cX9_comesAsk 96 = .ok (.iload_n 1, 1) := by decide +kernel
theorem dX9_comesAsk_97 : decode cX9_comesAsk 97 = .ok (.imul, 1) := by decide +kernel
theorem dX9_comesAsk_98 : decode cX9_comesAsk 98 = .ok (.iload 5, 2) := by decide +kernel
theorem dX9_comesAsk_100 : decode cX9_comesAsk 100 = .ok (.iadd, 1) := by decide +kernel
theorem dX9_comesAsk_101 : decode cX9_comesAsk 101 = .ok (.iconst (-1), 1) := by decide +kernel
theorem dX9_comesAsk_102 : decode cX9_comesAsk 102 = .ok (.iastore, 1) := by decide +kernel
theorem dX9_comesAsk_103 : decode cX9_comesAsk 103 = .ok (.iinc 5 1, 3) := by decide +kernel
theorem dX9_comesAsk_106 : decode cX9_comesAsk 106 = .ok (.goto (-23), 3) := by decide +kernel
theorem dX9_comesAsk_109 : decode cX9_comesAsk 109 = .ok (.aload_n 0, 1) := by decide +kernel
theorem dX9_comesAsk_110 : decode cX9_comesAsk 110 = .ok (.iconst 1, 1) := by decide +kernel
theorem dX9_comesAsk_111 : decode cX9_comesAsk 111 = .ok (.iload_n 1, 1) := by decide +kernel
theorem dX9_comesAsk_112 : decode cX9_comesAsk 112 = .ok (.iconst (-1), 1) := by decide +kernel
theorem dX9_comesAsk_113 : decode cX9_comesAsk 113 = .ok (.iconst (-1), 1) := by decide +kernel
theorem dX9_comesAsk_114 : decode cX9_comesAsk 114 = .ok (.aload_n 0, 1) := by decide +kernel
theorem dX9_comesAsk_115 : decode cX9_comesAsk 115 = .ok (.getfield 77, 3) := by decide +kernel
theorem dX9_comesAsk_118 : decode cX9_comesAsk 118 = .ok (.iload_n 1, 1) := by decide +kernel
theorem dX9_comesAsk_119 : decode cX9_comesAsk 119 = .ok (.iaload, 1) := by decide +kernel
theorem dX9_comesAsk_120 : decode cX9_comesAsk 120 = .ok (.invokevirtual 178, 3) := by decide +kernel
theorem dX9_comesAsk_123 : decode cX9_comesAsk 123 = .ok (.pop, 1) := by decide +kernel
theorem dX9_comesAsk_124 : decode cX9_comesAsk 124 = .ok (.return_, 1) := by decide +kernel
abbrev rm_X9_comesAsk : Room := { frames := 2, cells := 0, slots := 0, locals := 46 }
def P_X9_comesAsk_j37 (_q0 : Nat) (i1 : Int32) (i4 : Int32) (h : HP)  (Q : HP → Prop) : Prop := (vp_in i1 4) ∧ ((vp_in i1 4) ∧ ((vp_in i1 4) ∧ ((vp_in i1 4) ∧ ((vp_in i1 4) ∧ ((vp_in i1 4) ∧ (Lp2 (fun X_83 (i5_83 : Int32) (h_83 : HP) => ((64 ≤ i5_83) → ((vp_in i1 4) ∧ (P_X9_send 1 i1 (-1) (-1) (h_83.1 101 i1.toNatClampNeg) h_83 (fun (v_120 : Int32) (h_120 : HP) => Q h_120)))) ∧ ((¬ 64 ≤ i5_83) → ((vp_in ((64 * i1) + i5_83) 256) ∧ (X_83 (i5_83 + 1) (si h_83 108 ((64 * i1) + i5_83).toNatClampNeg (-1)))))) 0 (si (si (si (si (si (si h 102 i1.toNatClampNeg i4) 103 i1.toNatClampNeg 0) 104 i1.toNatClampNeg 0) 105 i1.toNatClampNeg 0) 106 i1.toNatClampNeg 0) 107 i1.toNatClampNeg 0)))))))
def P_X9_comesAsk (i1 : Int32) (i2 : Int32) (i3 : Int32) (i4 : Int32) (h : HP) (Q : HP → Prop) : Prop := P_X9_ends i1 h (fun (h_2 : HP) => (vp_in i1 4) ∧ ((vp_in i1 4) ∧ (((12 ≤ i3) → ((vp_in i1 4) ∧ (P_X9_comesAsk_j37 78 i1 i4 (si (si (si h_2 99 i1.toNatClampNeg 1) 100 i1.toNatClampNeg i2) 101 i1.toNatClampNeg 12) Q))) ∧ ((¬ 12 ≤ i3) → ((vp_in i1 4) ∧ (P_X9_comesAsk_j37 78 i1 i4 (si (si (si h_2 99 i1.toNatClampNeg 1) 100 i1.toNatClampNeg i2) 101 i1.toNatClampNeg i3) Q))))))
set_option maxHeartbeats 4000000 in
theorem l_X9_comesAsk_j37 {i1 : Int32} {i4 : Int32} {h : HP}  {Q : HP → Prop} {C : Cx} (hC : xOk C cX9_comesAsk yX9_comesAsk.cls 6 rm_X9_comesAsk none) (hE : xEnd C gM SH (pV Q))   (hp : P_X9_comesAsk_j37 78 i1 i4 h  Q) : SW C gM 37 [(0, .ref 78), (1, .int i1), (4, .int i4)] [] h := by
  unfold P_X9_comesAsk_j37 at hp
  refine x_aload_n hC dX9_comesAsk_37 (lm 0 rfl) ?_
  refine s_getR (r := 102) hC dX9_comesAsk_38 fk_9_80 ty_78 (fr_9_30 ty_78).1 ?_
  refine x_iload_n hC dX9_comesAsk_41 (lm 1 rfl) ?_
  refine x_iload hC dX9_comesAsk_42 (lm 2 rfl) ?_
  obtain ⟨ho, hp⟩ := hp
  refine s_iast hC dX9_comesAsk_44 ((fr_9_30 ty_78).2) ho ?_
  refine x_aload_n hC dX9_comesAsk_45 (lm 0 rfl) ?_
  refine s_getR (r := 103) hC dX9_comesAsk_46 fk_9_83 ty_78 (fr_9_31 ty_78).1 ?_
  refine x_iload_n hC dX9_comesAsk_49 (lm 1 rfl) ?_
  refine x_iconst hC dX9_comesAsk_50 ic_0 ?_
  obtain ⟨ho, hp⟩ := hp
  refine s_iast hC dX9_comesAsk_51 ((fr_9_31 ty_78).2) ho ?_
  refine x_aload_n hC dX9_comesAsk_52 (lm 0 rfl) ?_
  refine s_getR (r := 104) hC dX9_comesAsk_53 fk_9_86 ty_78 (fr_9_32 ty_78).1 ?_
  refine x_iload_n hC dX9_comesAsk_56 (lm 1 rfl) ?_
  refine x_iconst hC dX9_comesAsk_57 ic_0 ?_
  obtain ⟨ho, hp⟩ := hp
  refine s_iast hC dX9_comesAsk_58 ((fr_9_32 ty_78).2) ho ?_
  refine x_aload_n hC dX9_comesAsk_59 (lm 0 rfl) ?_
  refine s_getR (r := 105) hC dX9_comesAsk_60 fk_9_89 ty_78 (fr_9_33 ty_78).1 ?_
  refine x_iload_n hC dX9_comesAsk_63 (lm 1 rfl) ?_
  refine x_iconst hC dX9_comesAsk_64 ic_0 ?_
  obtain ⟨ho, hp⟩ := hp
  refine s_iast hC dX9_comesAsk_65 ((fr_9_33 ty_78).2) ho ?_
  refine x_aload_n hC dX9_comesAsk_66 (lm 0 rfl) ?_
  refine s_getR (r := 106) hC dX9_comesAsk_67 fk_9_92 ty_78 (fr_9_34 ty_78).1 ?_
  refine x_iload_n hC dX9_comesAsk_70 (lm 1 rfl) ?_
  refine x_iconst hC dX9_comesAsk_71 ic_0 ?_
  obtain ⟨ho, hp⟩ := hp
  refine s_iast hC dX9_comesAsk_72 ((fr_9_34 ty_78).2) ho ?_
  refine x_aload_n hC dX9_comesAsk_73 (lm 0 rfl) ?_
  refine s_getR (r := 107) hC dX9_comesAsk_74 fk_9_95 ty_78 (fr_9_35 ty_78).1 ?_
  refine x_iload_n hC dX9_comesAsk_77 (lm 1 rfl) ?_
  refine x_iconst hC dX9_comesAsk_78 ic_0 ?_
  obtain ⟨ho, hp⟩ := hp
  refine s_iast hC dX9_comesAsk_79 ((fr_9_35 ty_78).2) ho ?_
  refine x_iconst hC dX9_comesAsk_80 ic_0 ?_
  refine x_istore (lv' := [(5, .int 0), (0, .ref 78), (1, .int i1), (4, .int i4)]) hC dX9_comesAsk_81 (by decide) rfl ?_
  refine x_subk (lv' := [(0, .ref 78), (1, .int i1), (5, .int 0)]) [1, 2, 0] rfl ?_
  refine hp (fun i5_83 h_83 => SW C gM 83 [(0, .ref 78), (1, .int i1), (5, .int i5_83)] [] h_83) (fun i5_83 h_83 hp => ?_)
  refine x_iload hC dX9_comesAsk_83 (lm 2 rfl) ?_
  refine x_bipush hC dX9_comesAsk_85 bp_64 ?_
  refine x_icmp_ge (tgt := 109) hC dX9_comesAsk_87 (by decide) (fun hc => ?_) (fun hc => ?_)
  · have hp := hp.1 hc
    refine x_aload_n hC dX9_comesAsk_109 (lm 0 rfl) ?_
    refine x_iconst hC dX9_comesAsk_110 ic_1 ?_
    refine x_iload_n hC dX9_comesAsk_111 (lm 1 rfl) ?_
    refine x_iconst hC dX9_comesAsk_112 ic_m1 ?_
    refine x_iconst hC dX9_comesAsk_113 ic_m1 ?_
    refine x_aload_n hC dX9_comesAsk_114 (lm 0 rfl) ?_
    refine s_getR (r := 101) hC dX9_comesAsk_115 fk_9_77 ty_78 (fr_9_29 ty_78).1 ?_
    refine x_iload_n hC dX9_comesAsk_118 (lm 1 rfl) ?_
    obtain ⟨ho, hp⟩ := hp
    refine s_iald hC dX9_comesAsk_119 ((fr_9_29 ty_78).2) ho ?_
    refine s_callVi (avs := [.int 1, .int i1, .int (-1), .int (-1), .int (h_83.1 101 i1.toNatClampNeg)]) (st := []) hC dX9_comesAsk_120 ml_9_178 mi_X9_send ty_78 rfl (t_X9_send  hp) (Nat.le_of_ble_eq_true rfl) ⟨rfl, rfl⟩ ⟨Nat.le_of_ble_eq_true rfl, Nat.le_of_ble_eq_true rfl⟩ (fun v_120 h_120 hp => ?_)
    refine x_pop hC dX9_comesAsk_123 rfl ?_
    exact x_vret hC hE dX9_comesAsk_124 ⟨_, rfl, rfl, hp⟩
  · have hp := hp.2 hc
    refine x_aload_n hC dX9_comesAsk_90 (lm 0 rfl) ?_
    refine s_getR (r := 108) hC dX9_comesAsk_91 fk_9_98 ty_78 (fr_9_36 ty_78).1 ?_
    refine x_bipush hC dX9_comesAsk_94 bp_64 ?_
    refine x_iload_n hC dX9_comesAsk_96 (lm 1 rfl) ?_
    refine x_imul hC dX9_comesAsk_97 ?_
    refine x_iload hC dX9_comesAsk_98 (lm 2 rfl) ?_
    refine x_iadd hC dX9_comesAsk_100 ?_
    refine x_iconst hC dX9_comesAsk_101 ic_m1 ?_
    obtain ⟨ho, hp⟩ := hp
    refine s_iast hC dX9_comesAsk_102 ((fr_9_36 ty_78).2) ho ?_
    refine x_iinc (u := i5_83 + 1) (lv' := [(5, .int (i5_83 + 1)), (0, .ref 78), (1, .int i1)]) hC dX9_comesAsk_103 (lm 2 rfl) (congrArg _ ic_1) (by decide) rfl ?_
    refine x_goto (tgt := 83) hC dX9_comesAsk_106 (by decide) ?_
    exact x_subk [1, 2, 0] rfl hp
set_option maxHeartbeats 4000000 in
theorem t_X9_comesAsk {i1 : Int32} {i2 : Int32} {i3 : Int32} {i4 : Int32} {h : HP} {Q : HP → Prop}  (hp : P_X9_comesAsk i1 i2 i3 i4 h Q) : MT yX9_comesAsk cX9_comesAsk 6 none rm_X9_comesAsk [.ref 78, .int i1, .int i2, .int i3, .int i4] gM SH (emb h) (pV Q) := by
  refine MT.of (by decide +kernel) (Nat.le_of_ble_eq_true rfl) (fun C hC hE => ?_)
  show SW C gM 0 [(0, .ref 78), (1, .int i1), (2, .int i2), (3, .int i3), (4, .int i4)] [] h
  unfold P_X9_comesAsk at hp
  refine x_aload_n hC dX9_comesAsk_0 (lm 0 rfl) ?_
  refine x_iload_n hC dX9_comesAsk_1 (lm 1 rfl) ?_
  refine s_callVv (avs := [.int i1]) (st := []) hC dX9_comesAsk_2 ml_9_259 mi_X9_ends ty_78 rfl (t_X9_ends  hp) (Nat.le_of_ble_eq_true rfl) ⟨rfl, rfl⟩ ⟨Nat.le_of_ble_eq_true rfl, Nat.le_of_ble_eq_true rfl⟩ (fun h_2 hp => ?_)
  refine x_aload_n hC dX9_comesAsk_5 (lm 0 rfl) ?_
  refine s_getR (r := 99) hC dX9_comesAsk_6 fk_9_71 ty_78 (fr_9_27 ty_78).1 ?_
  refine x_iload_n hC dX9_comesAsk_9 (lm 1 rfl) ?_
  refine x_iconst hC dX9_comesAsk_10 ic_1 ?_
  obtain ⟨ho, hp⟩ := hp
  refine s_zast (y := 1) hC dX9_comesAsk_11 ((fr_9_27 ty_78).2) ho (by decide) ?_
  refine x_aload_n hC dX9_comesAsk_12 (lm 0 rfl) ?_
  refine s_getR (r := 100) hC dX9_comesAsk_13 fk_9_74 ty_78 (fr_9_28 ty_78).1 ?_
  refine x_iload_n hC dX9_comesAsk_16 (lm 1 rfl) ?_
  refine x_iload_n hC dX9_comesAsk_17 (lm 2 rfl) ?_
  obtain ⟨ho, hp⟩ := hp
  refine s_iast hC dX9_comesAsk_18 ((fr_9_28 ty_78).2) ho ?_
  refine x_aload_n hC dX9_comesAsk_19 (lm 0 rfl) ?_
  refine s_getR (r := 101) hC dX9_comesAsk_20 fk_9_77 ty_78 (fr_9_29 ty_78).1 ?_
  refine x_iload_n hC dX9_comesAsk_23 (lm 1 rfl) ?_
  refine x_iload_n hC dX9_comesAsk_24 (lm 3 rfl) ?_
  refine x_bipush hC dX9_comesAsk_25 bp_12 ?_
  refine x_icmp_ge (tgt := 34) hC dX9_comesAsk_27 (by decide) (fun hc => ?_) (fun hc => ?_)
  · have hp := hp.1 hc
    refine x_bipush hC dX9_comesAsk_34 bp_12 ?_
    obtain ⟨ho, hp⟩ := hp
    refine s_iast hC dX9_comesAsk_36 ((fr_9_29 ty_78).2) ho ?_
    exact x_subk [0, 1, 4] rfl (l_X9_comesAsk_j37 hC hE   hp)
  · have hp := hp.2 hc
    refine x_iload_n hC dX9_comesAsk_30 (lm 3 rfl) ?_
    refine x_goto (tgt := 36) hC dX9_comesAsk_31 (by decide) ?_
    obtain ⟨ho, hp⟩ := hp
    refine s_iast hC dX9_comesAsk_36 ((fr_9_29 ty_78).2) ho ?_
    exact x_subk [0, 1, 4] rfl (l_X9_comesAsk_j37 hC hE   hp)
theorem dX9_comesBar_0 : decode cX9_comesBar 0 = .ok (.aload_n 0, 1) := by decide +kernel
theorem dX9_comesBar_1 : decode cX9_comesBar 1 = .ok (.getfield 71, 3) := by decide +kernel
theorem dX9_comesBar_4 : decode cX9_comesBar 4 = .ok (.iload_n 1, 1) := by decide +kernel
theorem dX9_comesBar_5 : decode cX9_comesBar 5 = .ok (.baload, 1) := by decide +kernel
theorem dX9_comesBar_6 : decode cX9_comesBar 6 = .ok (.ifCond .ne 4, 3) := by decide +kernel
theorem dX9_comesBar_9 : decode cX9_comesBar 9 = .ok (.return_, 1) := by decide +kernel
theorem dX9_comesBar_10 : decode cX9_comesBar 10 = .ok (.aload_n 0, 1) := by decide +kernel
theorem dX9_comesBar_11 : decode cX9_comesBar 11 = .ok (.getfield 86, 3) := by decide +kernel
theorem dX9_comesBar_14 : decode cX9_comesBar 14 = .ok (.iload_n 1, 1) := by decide +kernel
theorem dX9_comesBar_15 : decode cX9_comesBar 15 = .ok (.iaload, 1) := by decide +kernel
theorem dX9_comesBar_16 : decode cX9_comesBar 16 = .ok (.iload_n 2, 1) := by decide +kernel
theorem dX9_comesBar_17 : decode cX9_comesBar 17 = .ok (.invokestatic 238, 3) := by decide +kernel
theorem dX9_comesBar_20 : decode cX9_comesBar 20 = .ok (.ifCond .ne 9, 3) := by decide +kernel
theorem dX9_comesBar_23 : decode cX9_comesBar 23 = .ok (.aload_n 0, 1) := by decide +kernel
theorem dX9_comesBar_24 : decode cX9_comesBar 24 = .ok (.iload_n 1, 1) := by decide +kernel
theorem dX9_comesBar_25 : decode cX9_comesBar 25 = .ok (.iload_n 2, 1) := by decide +kernel
theorem dX9_comesBar_26 : decode cX9_comesBar 26 = .ok (.invokevirtual 244, 3) := by decide +kernel
theorem dX9_comesBar_29 : decode cX9_comesBar 29 = .ok (.aload_n 0, 1) := by decide +kernel
theorem dX9_comesBar_30 : decode cX9_comesBar 30 = .ok (.getfield 83, 3) := by decide +kernel
theorem dX9_comesBar_33 : decode cX9_comesBar 33 = .ok (.iload_n 1, 1) := by decide +kernel
theorem dX9_comesBar_34 : decode cX9_comesBar 34 = .ok (.iaload, 1) := by decide +kernel
theorem dX9_comesBar_35 : decode cX9_comesBar 35 = .ok (.iload_n 2, 1) := by decide +kernel
theorem dX9_comesBar_36 : decode cX9_comesBar 36 = .ok (.invokestatic 238, 3) := by decide +kernel
theorem dX9_comesBar_39 : decode cX9_comesBar 39 = .ok (.ifCond .ne 14, 3) := by decide +kernel
theorem dX9_comesBar_42 : decode cX9_comesBar 42 = .ok (.aload_n 0, 1) := by decide +kernel
theorem dX9_comesBar_43 : decode cX9_comesBar 43 = .ok (.iload_n 1, 1) := by decide +kernel
theorem dX9_comesBar_44 : decode cX9_comesBar 44 = .ok (.iload_n 2, 1) := by decide +kernel
theorem dX9_comesBar_45 : decode cX9_comesBar 45 = .ok (.invokevirtual 253, 3) := by decide +kernel
theorem dX9_comesBar_48 : decode cX9_comesBar 48 = .ok (.aload_n 0, 1) := by decide +kernel
theorem dX9_comesBar_49 : decode cX9_comesBar 49 = .ok (.iload_n 1, 1) := by decide +kernel
theorem dX9_comesBar_50 : decode cX9_comesBar 50 = .ok (.invokevirtual 256, 3) := by decide +kernel
theorem dX9_comesBar_53 : decode cX9_comesBar 53 = .ok (.aload_n 0, 1) := by decide +kernel
theorem dX9_comesBar_54 : decode cX9_comesBar 54 = .ok (.iconst 4, 1) := by decide +kernel
theorem dX9_comesBar_55 : decode cX9_comesBar 55 = .ok (.iload_n 1, 1) := by decide +kernel
theorem dX9_comesBar_56 : decode cX9_comesBar 56 = .ok (.aload_n 0, 1) := by decide +kernel
theorem dX9_comesBar_57 : decode cX9_comesBar 57 = .ok (.getfield 86, 3) := by decide +kernel
theorem dX9_comesBar_60 : decode cX9_comesBar 60 = .ok (.iload_n 1, 1) := by decide +kernel
theorem dX9_comesBar_61 : decode cX9_comesBar 61 = .ok (.iaload, 1) := by decide +kernel
theorem dX9_comesBar_62 : decode cX9_comesBar 62 = .ok (.aload_n 0, 1) := by decide +kernel
theorem dX9_comesBar_63 : decode cX9_comesBar 63 = .ok (.getfield 89, 3) := by decide +kernel
theorem dX9_comesBar_66 : decode cX9_comesBar 66 = .ok (.iload_n 1, 1) := by decide +kernel
theorem dX9_comesBar_67 : decode cX9_comesBar 67 = .ok (.iaload, 1) := by decide +kernel
theorem dX9_comesBar_68 : decode cX9_comesBar 68 = .ok (.iconst (-1), 1) := by decide +kernel
theorem dX9_comesBar_69 : decode cX9_comesBar 69 = .ok (.invokevirtual 178, 3) := by decide +kernel
theorem dX9_comesBar_72 : decode cX9_comesBar 72 = .ok (.pop, 1) := by decide +kernel
theorem dX9_comesBar_73 : decode cX9_comesBar 73 = .ok (.return_, 1) := by decide +kernel
abbrev rm_X9_comesBar : Room := { frames := 3, cells := 0, slots := 0, locals := 67 }
def P_X9_comesBar_j53 (_q0 : Nat) (i1 : Int32) (h : HP)  (Q : HP → Prop) : Prop := (vp_in i1 4) ∧ ((vp_in i1 4) ∧ (P_X9_send 4 i1 (h.1 104 i1.toNatClampNeg) (h.1 105 i1.toNatClampNeg) (-1) h (fun (v_69 : Int32) (h_69 : HP) => Q h_69)))
def P_X9_comesBar_j29 (_q0 : Nat) (i1 : Int32) (i2 : Int32) (h : HP)  (Q : HP → Prop) : Prop := (vp_in i1 4) ∧ (P_X9_isBehind (h.1 103 i1.toNatClampNeg) i2 h (fun (v_36 : Int32) (h_36 : HP) => ((¬ v_36 = 0) → P_X9_comesBar_j53 78 i1 h_36 Q) ∧ ((v_36 = 0) → (P_X9_movesTo i1 i2 h_36 (fun (h_45 : HP) => P_X9_goesOn i1 h_45 (fun (h_50 : HP) => P_X9_comesBar_j53 78 i1 h_50 Q))))))
def P_X9_comesBar (i1 : Int32) (i2 : Int32) (h : HP) (Q : HP → Prop) : Prop := (vp_in i1 4) ∧ (((¬ (h.1 99 i1.toNatClampNeg) = 0) → ((vp_in i1 4) ∧ (P_X9_isBehind (h.1 104 i1.toNatClampNeg) i2 h (fun (v_17 : Int32) (h_17 : HP) => ((¬ v_17 = 0) → P_X9_comesBar_j29 78 i1 i2 h_17 Q) ∧ ((v_17 = 0) → (P_X9_marksTo i1 i2 h_17 (fun (h_26 : HP) => P_X9_comesBar_j29 78 i1 i2 h_26 Q))))))) ∧ (((h.1 99 i1.toNatClampNeg) = 0) → Q h))
set_option maxHeartbeats 4000000 in
theorem l_X9_comesBar_j53 {i1 : Int32} {h : HP}  {Q : HP → Prop} {C : Cx} (hC : xOk C cX9_comesBar yX9_comesBar.cls 3 rm_X9_comesBar none) (hE : xEnd C gM SH (pV Q))   (hp : P_X9_comesBar_j53 78 i1 h  Q) : SW C gM 53 [(0, .ref 78), (1, .int i1)] [] h := by
  unfold P_X9_comesBar_j53 at hp
  refine x_aload_n hC dX9_comesBar_53 (lm 0 rfl) ?_
  refine x_iconst hC dX9_comesBar_54 ic_4 ?_
  refine x_iload_n hC dX9_comesBar_55 (lm 1 rfl) ?_
  refine x_aload_n hC dX9_comesBar_56 (lm 0 rfl) ?_
  refine s_getR (r := 104) hC dX9_comesBar_57 fk_9_86 ty_78 (fr_9_32 ty_78).1 ?_
  refine x_iload_n hC dX9_comesBar_60 (lm 1 rfl) ?_
  obtain ⟨ho, hp⟩ := hp
  refine s_iald hC dX9_comesBar_61 ((fr_9_32 ty_78).2) ho ?_
  refine x_aload_n hC dX9_comesBar_62 (lm 0 rfl) ?_
  refine s_getR (r := 105) hC dX9_comesBar_63 fk_9_89 ty_78 (fr_9_33 ty_78).1 ?_
  refine x_iload_n hC dX9_comesBar_66 (lm 1 rfl) ?_
  obtain ⟨ho, hp⟩ := hp
  refine s_iald hC dX9_comesBar_67 ((fr_9_33 ty_78).2) ho ?_
  refine x_iconst hC dX9_comesBar_68 ic_m1 ?_
  refine s_callVi (avs := [.int 4, .int i1, .int (h.1 104 i1.toNatClampNeg), .int (h.1 105 i1.toNatClampNeg), .int (-1)]) (st := []) hC dX9_comesBar_69 ml_9_178 mi_X9_send ty_78 rfl (t_X9_send  hp) (Nat.le_of_ble_eq_true rfl) ⟨rfl, rfl⟩ ⟨Nat.le_of_ble_eq_true rfl, Nat.le_of_ble_eq_true rfl⟩ (fun v_69 h_69 hp => ?_)
  refine x_pop hC dX9_comesBar_72 rfl ?_
  exact x_vret hC hE dX9_comesBar_73 ⟨_, rfl, rfl, hp⟩
set_option maxHeartbeats 4000000 in
theorem l_X9_comesBar_j29 {i1 : Int32} {i2 : Int32} {h : HP}  {Q : HP → Prop} {C : Cx} (hC : xOk C cX9_comesBar yX9_comesBar.cls 3 rm_X9_comesBar none) (hE : xEnd C gM SH (pV Q))   (hp : P_X9_comesBar_j29 78 i1 i2 h  Q) : SW C gM 29 [(0, .ref 78), (1, .int i1), (2, .int i2)] [] h := by
  unfold P_X9_comesBar_j29 at hp
  refine x_aload_n hC dX9_comesBar_29 (lm 0 rfl) ?_
  refine s_getR (r := 103) hC dX9_comesBar_30 fk_9_83 ty_78 (fr_9_31 ty_78).1 ?_
  refine x_iload_n hC dX9_comesBar_33 (lm 1 rfl) ?_
  obtain ⟨ho, hp⟩ := hp
  refine s_iald hC dX9_comesBar_34 ((fr_9_31 ty_78).2) ho ?_
  refine x_iload_n hC dX9_comesBar_35 (lm 2 rfl) ?_
  refine s_callSi (avs := [.int (h.1 103 i1.toNatClampNeg), .int i2]) (st := []) hC dX9_comesBar_36 ml_9_238 ms_X9_isBehind rfl (t_X9_isBehind  hp) (Nat.le_of_ble_eq_true rfl) ⟨rfl, rfl⟩ ⟨Nat.le_of_ble_eq_true rfl, Nat.le_of_ble_eq_true rfl⟩ (fun v_36 h_36 hp => ?_)
  refine x_if_ne (tgt := 53) hC dX9_comesBar_39 (by decide) (fun hc => ?_) (fun hc => ?_)
  · have hp := hp.1 hc
    exact x_subk [0, 1] rfl (l_X9_comesBar_j53 hC hE   hp)
  · have hp := hp.2 hc
    refine x_aload_n hC dX9_comesBar_42 (lm 0 rfl) ?_
    refine x_iload_n hC dX9_comesBar_43 (lm 1 rfl) ?_
    refine x_iload_n hC dX9_comesBar_44 (lm 2 rfl) ?_
    refine s_callVv (avs := [.int i1, .int i2]) (st := []) hC dX9_comesBar_45 ml_9_253 mi_X9_movesTo ty_78 rfl (t_X9_movesTo  hp) (Nat.le_of_ble_eq_true rfl) ⟨rfl, rfl⟩ ⟨Nat.le_of_ble_eq_true rfl, Nat.le_of_ble_eq_true rfl⟩ (fun h_45 hp => ?_)
    refine x_aload_n hC dX9_comesBar_48 (lm 0 rfl) ?_
    refine x_iload_n hC dX9_comesBar_49 (lm 1 rfl) ?_
    refine s_callVv (avs := [.int i1]) (st := []) hC dX9_comesBar_50 ml_9_256 mi_X9_goesOn ty_78 rfl (t_X9_goesOn  hp) (Nat.le_of_ble_eq_true rfl) ⟨rfl, rfl⟩ ⟨Nat.le_of_ble_eq_true rfl, Nat.le_of_ble_eq_true rfl⟩ (fun h_50 hp => ?_)
    exact x_subk [0, 1] rfl (l_X9_comesBar_j53 hC hE   hp)
set_option maxHeartbeats 4000000 in
theorem t_X9_comesBar {i1 : Int32} {i2 : Int32} {h : HP} {Q : HP → Prop}  (hp : P_X9_comesBar i1 i2 h Q) : MT yX9_comesBar cX9_comesBar 3 none rm_X9_comesBar [.ref 78, .int i1, .int i2] gM SH (emb h) (pV Q) := by
  refine MT.of (by decide +kernel) (Nat.le_of_ble_eq_true rfl) (fun C hC hE => ?_)
  show SW C gM 0 [(0, .ref 78), (1, .int i1), (2, .int i2)] [] h
  unfold P_X9_comesBar at hp
  refine x_aload_n hC dX9_comesBar_0 (lm 0 rfl) ?_
  refine s_getR (r := 99) hC dX9_comesBar_1 fk_9_71 ty_78 (fr_9_27 ty_78).1 ?_
  refine x_iload_n hC dX9_comesBar_4 (lm 1 rfl) ?_
  obtain ⟨ho, hp⟩ := hp
  refine s_zald hC dX9_comesBar_5 ((fr_9_27 ty_78).2) ho ?_
  refine x_if_ne (tgt := 10) hC dX9_comesBar_6 (by decide) (fun hc => ?_) (fun hc => ?_)
  · have hp := hp.1 hc
    refine x_aload_n hC dX9_comesBar_10 (lm 0 rfl) ?_
    refine s_getR (r := 104) hC dX9_comesBar_11 fk_9_86 ty_78 (fr_9_32 ty_78).1 ?_
    refine x_iload_n hC dX9_comesBar_14 (lm 1 rfl) ?_
    obtain ⟨ho, hp⟩ := hp
    refine s_iald hC dX9_comesBar_15 ((fr_9_32 ty_78).2) ho ?_
    refine x_iload_n hC dX9_comesBar_16 (lm 2 rfl) ?_
    refine s_callSi (avs := [.int (h.1 104 i1.toNatClampNeg), .int i2]) (st := []) hC dX9_comesBar_17 ml_9_238 ms_X9_isBehind rfl (t_X9_isBehind  hp) (Nat.le_of_ble_eq_true rfl) ⟨rfl, rfl⟩ ⟨Nat.le_of_ble_eq_true rfl, Nat.le_of_ble_eq_true rfl⟩ (fun v_17 h_17 hp => ?_)
    refine x_if_ne (tgt := 29) hC dX9_comesBar_20 (by decide) (fun hc => ?_) (fun hc => ?_)
    · have hp := hp.1 hc
      exact x_subk [0, 1, 2] rfl (l_X9_comesBar_j29 hC hE   hp)
    · have hp := hp.2 hc
      refine x_aload_n hC dX9_comesBar_23 (lm 0 rfl) ?_
      refine x_iload_n hC dX9_comesBar_24 (lm 1 rfl) ?_
      refine x_iload_n hC dX9_comesBar_25 (lm 2 rfl) ?_
      refine s_callVv (avs := [.int i1, .int i2]) (st := []) hC dX9_comesBar_26 ml_9_244 mi_X9_marksTo ty_78 rfl (t_X9_marksTo  hp) (Nat.le_of_ble_eq_true rfl) ⟨rfl, rfl⟩ ⟨Nat.le_of_ble_eq_true rfl, Nat.le_of_ble_eq_true rfl⟩ (fun h_26 hp => ?_)
      exact x_subk [0, 1, 2] rfl (l_X9_comesBar_j29 hC hE   hp)
  · have hp := hp.2 hc
    exact x_vret hC hE dX9_comesBar_9 ⟨_, rfl, rfl, hp⟩
theorem dX9_comesBundle_0 : decode cX9_comesBundle 0 = .ok (.bipush 8, 2) := by decide +kernel
theorem dX9_comesBundle_2 : decode cX9_comesBundle 2 = .ok (.iload_n 1, 1) := by decide +kernel
theorem dX9_comesBundle_3 : decode cX9_comesBundle 3 = .ok (.imul, 1) := by decide +kernel
theorem dX9_comesBundle_4 : decode cX9_comesBundle 4 = .ok (.istore_n 3, 1) := by decide +kernel
theorem dX9_comesBundle_5 : decode cX9_comesBundle 5 = .ok (.aload_n 0, 1) := by decide +kernel
theorem dX9_comesBundle_6 : decode cX9_comesBundle 6 = .ok (.getfield 107, 3) := by decide +kernel
theorem dX9_comesBundle_9 : decode cX9_comesBundle 9 = .ok (.iload_n 3, 1) := by decide +kernel
theorem dX9_comesBundle_10 : decode cX9_comesBundle 10 = .ok (.iconst 1, 1) := by decide +kernel
theorem dX9_comesBundle_11 : decode cX9_comesBundle 11 = .ok (.iadd, 1) := by decide +kernel
theorem dX9_comesBundle_12 : decode cX9_comesBundle 12 = .ok (.iaload, 1) := by decide +kernel
theorem dX9_comesBundle_13 : decode cX9_comesBundle 13 = .ok (.istore 4, 2) := by decide +kernel
theorem dX9_comesBundle_15 : decode cX9_comesBundle 15 = .ok (.iconst 0, 1) := by decide +kernel
theorem dX9_comesBundle_16 : decode cX9_comesBundle 16 = .ok (.istore 5, 2) := by decide +kernel
theorem dX9_comesBundle_18 : decode cX9_comesBundle 18 = .ok (.iconst 0, 1) := by decide +kernel
theorem dX9_comesBundle_19 : decode cX9_comesBundle 19 = .ok (.istore 6, 2) := by decide +kernel
theorem dX9_comesBundle_21 : decode cX9_comesBundle 21 = .ok (.iload 6, 2) := by decide +kernel
theorem dX9_comesBundle_23 : decode cX9_comesBundle 23 = .ok (.aload_n 0, 1) := by decide +kernel
theorem dX9_comesBundle_24 : decode cX9_comesBundle 24 = .ok (.getfield 107, 3) := by decide +kernel
theorem dX9_comesBundle_27 : decode cX9_comesBundle 27 = .ok (.iload_n 3, 1) := by decide +kernel
theorem dX9_comesBundle_28 : decode cX9_comesBundle 28 = .ok (.bipush 7, 2) := by decide +kernel
theorem dX9_comesBundle_30 : decode cX9_comesBundle 30 = .ok (.iadd, 1) := by decide +kernel
theorem dX9_comesBundle_31 : decode cX9_comesBundle 31 = .ok (.iaload, 1) := by decide +kernel
theorem dX9_comesBundle_32 : decode cX9_comesBundle 32 = .ok (.if_icmp .ge 98, 3) := by decide +kernel
theorem dX9_comesBundle_35 : decode cX9_comesBundle 35 = .ok (.iconst 4, 1) := by decide +kernel
theorem dX9_comesBundle_36 : decode cX9_comesBundle 36 = .ok (.iload_n 3, 1) := by decide +kernel
theorem dX9_comesBundle_37 : decode cX9_comesBundle 37 = .ok (.imul, 1) := by decide +kernel
theorem dX9_comesBundle_38 : decode cX9_comesBundle 38 = .ok (.iconst 4, 1) := by decide +kernel
theorem dX9_comesBundle_39 : decode cX9_comesBundle 39 = .ok (.iload 6, 2) := by decide +kernel
theorem dX9_comesBundle_41 : decode cX9_comesBundle 41 = .ok (.imul, 1) := by decide +kernel
theorem dX9_comesBundle_42 : decode cX9_comesBundle 42 = .ok (.iadd, 1) := by decide +kernel
theorem dX9_comesBundle_43 : decode cX9_comesBundle 43 = .ok (.istore 7, 2) := by decide +kernel
theorem dX9_comesBundle_45 : decode cX9_comesBundle 45 = .ok (.aload_n 0, 1) := by decide +kernel
theorem dX9_comesBundle_46 : decode cX9_comesBundle 46 = .ok (.getfield 110, 3) := by decide +kernel
theorem dX9_comesBundle_49 : decode cX9_comesBundle 49 = .ok (.iload 7, 2) := by decide +kernel
theorem dX9_comesBundle_51 : decode cX9_comesBundle 51 = .ok (.iconst 1, 1) := by decide +kernel
theorem dX9_comesBundle_52 : decode cX9_comesBundle 52 = .ok (.iadd, 1) := by decide +kernel
theorem dX9_comesBundle_53 : decode cX9_comesBundle 53 = .ok (.iaload, 1) := by decide +kernel
theorem dX9_comesBundle_54 : decode cX9_comesBundle 54 = .ok (.iload_n 2, 1) := by decide +kernel
theorem dX9_comesBundle_55 : decode cX9_comesBundle 55 = .ok (.iload 6, 2) := by decide +kernel
theorem dX9_comesBundle_57 : decode cX9_comesBundle 57 = .ok (.ishr, 1) := by decide +kernel
theorem dX9_comesBundle_58 : decode cX9_comesBundle 58 = .ok (.iconst 1, 1) := by decide +kernel
theorem dX9_comesBundle_59 : decode cX9_comesBundle 59 = .ok (.iand, 1) := by decide +kernel
theorem dX9_comesBundle_60 : decode cX9_comesBundle 60 = .ok (.ixor, 1) := by decide +kernel
theorem dX9_comesBundle_61 : decode cX9_comesBundle 61 = .ok (.istore 8, 2) := by decide +kernel
theorem dX9_comesBundle_63 : decode cX9_comesBundle 63 = .ok (.iload 4, 2) := by decide +kernel
theorem dX9_comesBundle_65 : decode cX9_comesBundle 65 = .ok (.aload_n 0, 1) := by decide +kernel
theorem dX9_comesBundle_66 : decode cX9_comesBundle 66 = .ok (.getfield 110, 3) := by decide +kernel
theorem dX9_comesBundle_69 : decode cX9_comesBundle 69 = .ok (.iload 7, 2) := by decide +kernel
theorem dX9_comesBundle_71 : decode cX9_comesBundle 71 = .ok (.iaload, 1) := by decide +kernel
theorem dX9_comesBundle_72 : decode cX9_comesBundle 72 = .ok (.iload 8, 2) := by decide +kernel
theorem dX9_comesBundle_74 : decode cX9_comesBundle 74 = .ok (.aload_n 0, 1) := by decide +kernel
theorem dX9_comesBundle_75 : decode cX9_comesBundle 75 = .ok (.getfield 110, 3) := by decide +kernel
theorem dX9_comesBundle_78 : decode cX9_comesBundle 78 = .ok (.iload 7, 2) := by decide +kernel
theorem dX9_comesBundle_80 : decode cX9_comesBundle 80 = .ok (.iconst 2, 1) := by decide +kernel
theorem dX9_comesBundle_81 : decode cX9_comesBundle 81 = .ok (.iadd, 1) := by decide +kernel
theorem dX9_comesBundle_82 : decode cX9_comesBundle 82 = .ok (.iaload, 1) := by decide +kernel
theorem dX9_comesBundle_83 : decode cX9_comesBundle 83 = .ok (.invokestatic 213, 3) := by decide +kernel
theorem dX9_comesBundle_86 : decode cX9_comesBundle 86 = .ok (.aload_n 0, 1) := by decide +kernel
theorem dX9_comesBundle_87 : decode cX9_comesBundle 87 = .ok (.getfield 110, 3) := by decide +kernel
theorem dX9_comesBundle_90 : decode cX9_comesBundle 90 = .ok (.iload 7, 2) := by decide +kernel
theorem dX9_comesBundle_92 : decode cX9_comesBundle 92 = .ok (.iconst 3, 1) := by decide +kernel
theorem dX9_comesBundle_93 : decode cX9_comesBundle 93 = .ok (.iadd, 1) := by decide +kernel
theorem dX9_comesBundle_94 : decode cX9_comesBundle 94 = .ok (.iaload, 1) := by decide +kernel
theorem dX9_comesBundle_95 : decode cX9_comesBundle 95 = .ok (.if_icmp .ne 29, 3) := by decide +kernel
theorem dX9_comesBundle_98 : decode cX9_comesBundle 98 = .ok (.aload_n 0, 1) := by decide +kernel
theorem dX9_comesBundle_99 : decode cX9_comesBundle 99 = .ok (.getfield 113, 3) := by decide +kernel
theorem dX9_comesBundle_102 : decode cX9_comesBundle 102 = .ok (.iload 5, 2) := by decide +kernel
theorem dX9_comesBundle_104 : decode cX9_comesBundle 104 = .ok (.aload_n 0, 1) := by decide +kernel
theorem dX9_comesBundle_105 : decode cX9_comesBundle 105 = .ok (.getfield 110, 3) := by decide +kernel
theorem dX9_comesBundle_108 : decode cX9_comesBundle 108 = .ok (.iload 7, 2) := by decide +kernel
theorem dX9_comesBundle_110 : decode cX9_comesBundle 110 = .ok (.iaload, 1) := by decide +kernel
theorem dX9_comesBundle_111 : decode cX9_comesBundle 111 = .ok (.iastore, 1) := by decide +kernel
theorem dX9_comesBundle_112 : decode cX9_comesBundle 112 = .ok (.aload_n 0, 1) := by decide +kernel
theorem dX9_comesBundle_113 : decode cX9_comesBundle 113 = .ok (.getfield 116, 3) := by decide +kernel
theorem dX9_comesBundle_116 : decode cX9_comesBundle 116 = .ok (.iload 5, 2) := by decide +kernel
theorem dX9_comesBundle_118 : decode cX9_comesBundle 118 = .ok (.iload 8, 2) := by decide +kernel
theorem dX9_comesBundle_120 : decode cX9_comesBundle 120 = .ok (.iastore, 1) := by decide +kernel
theorem dX9_comesBundle_121 : decode cX9_comesBundle 121 = .ok (.iinc 5 1, 3) := by decide +kernel
theorem dX9_comesBundle_124 : decode cX9_comesBundle 124 = .ok (.iinc 6 1, 3) := by decide +kernel
theorem dX9_comesBundle_127 : decode cX9_comesBundle 127 = .ok (.goto (-106), 3) := by decide +kernel
theorem dX9_comesBundle_130 : decode cX9_comesBundle 130 = .ok (.aload_n 0, 1) := by decide +kernel
theorem dX9_comesBundle_131 : decode cX9_comesBundle 131 = .ok (.iload_n 1, 1) := by decide +kernel
theorem dX9_comesBundle_132 : decode cX9_comesBundle 132 = .ok (.invokevirtual 164, 3) := by decide +kernel
theorem dX9_comesBundle_135 : decode cX9_comesBundle 135 = .ok (.aload_n 0, 1) := by decide +kernel
theorem dX9_comesBundle_136 : decode cX9_comesBundle 136 = .ok (.getfield 13, 3) := by decide +kernel
theorem dX9_comesBundle_139 : decode cX9_comesBundle 139 = .ok (.iconst 3, 1) := by decide +kernel
theorem dX9_comesBundle_140 : decode cX9_comesBundle 140 = .ok (.dup2, 1) := by decide +kernel
theorem dX9_comesBundle_141 : decode cX9_comesBundle 141 = .ok (.iaload, 1) := by decide +kernel
theorem dX9_comesBundle_142 : decode cX9_comesBundle 142 = .ok (.iload 5, 2) := by decide +kernel
theorem dX9_comesBundle_144 : decode cX9_comesBundle 144 = .ok (.iadd, 1) := by decide +kernel
theorem dX9_comesBundle_145 : decode cX9_comesBundle 145 = .ok (.iastore, 1) := by decide +kernel
theorem dX9_comesBundle_146 : decode cX9_comesBundle 146 = .ok (.aload_n 0, 1) := by decide +kernel
theorem dX9_comesBundle_147 : decode cX9_comesBundle 147 = .ok (.getfield 71, 3) := by decide +kernel
theorem dX9_comesBundle_150 : decode cX9_comesBundle 150 = .ok (.iload 4, 2) := by decide +kernel
theorem dX9_comesBundle_152 : decode cX9_comesBundle 152 = .ok (.baload, 1) := by decide +kernel
theorem dX9_comesBundle_153 : decode cX9_comesBundle 153 = .ok (.ifCond .eq 8, 3) := by decide +kernel
theorem dX9_comesBundle_156 : decode cX9_comesBundle 156 = .ok (.iload 5, 2) := by decide +kernel
theorem dX9_comesBundle_158 : decode cX9_comesBundle 158 = .ok (.ifCond .ne 6, 3) := by decide +kernel
theorem dX9_comesBundle_161 : decode cX9_comesBundle 161 = .ok (.iload 5, 2) := by decide +kernel
theorem dX9_comesBundle_163 : decode cX9_comesBundle 163 = .ok (.ireturn, 1) := by decide +kernel
theorem dX9_comesBundle_164 : decode cX9_comesBundle 164 = .ok (.iconst 0, 1) := by decide +kernel
theorem dX9_comesBundle_165 : decode cX9_comesBundle 165 = .ok (.istore 6, 2) := by decide +kernel
theorem dX9_comesBundle_167 : decode cX9_comesBundle 167 = .ok (.iload 6, 2) := by decide +kernel
theorem dX9_comesBundle_169 : decode cX9_comesBundle 169 = .ok (.iload 5, 2) := by decide +kernel
theorem dX9_comesBundle_171 : decode cX9_comesBundle 171 = .ok (.if_icmp .ge 29, 3) := by decide +kernel
theorem dX9_comesBundle_174 : decode cX9_comesBundle 174 = .ok (.aload_n 0, 1) := by decide +kernel
theorem dX9_comesBundle_175 : decode cX9_comesBundle 175 = .ok (.iload 4, 2) := by decide +kernel
theorem dX9_comesBundle_177 : decode cX9_comesBundle 177 = .ok (.aload_n 0, 1) := by decide +kernel
theorem dX9_comesBundle_178 : decode cX9_comesBundle 178 = .ok (.getfield 113, 3) := by decide +kernel
theorem dX9_comesBundle_181 : decode cX9_comesBundle 181 = .ok (.iload 6, 2) := by decide +kernel
theorem dX9_comesBundle_183 : decode cX9_comesBundle 183 = .ok (.iaload, 1) := by decide +kernel
theorem dX9_comesBundle_184 : decode cX9_comesBundle 184 = .ok (.aload_n 0, 1) := by decide +kernel
theorem dX9_comesBundle_185 : decode cX9_comesBundle 185 = .ok (.getfield 116, 3) := by decide +kernel
theorem dX9_comesBundle_188 : decode cX9_comesBundle 188 = .ok (.iload 6, 2) := by decide +kernel
theorem dX9_comesBundle_190 : decode cX9_comesBundle 190 = .ok (.iaload, 1) := by decide +kernel
theorem dX9_comesBundle_191 : decode cX9_comesBundle 191 = .ok (.invokevirtual 262, 3) := by decide +kernel
theorem dX9_comesBundle_194 : decode cX9_comesBundle 194 = .ok (.iinc 6 1, 3) := by decide +kernel
theorem dX9_comesBundle_197 : decode cX9_comesBundle 197 = .ok (.goto (-30), 3) := by decide +kernel
theorem dX9_comesBundle_200 : decode cX9_comesBundle 200 = .ok (.aload_n 0, 1) := by decide +kernel
theorem dX9_comesBundle_201 : decode cX9_comesBundle 201 = .ok (.iconst 4, 1) := by decide +kernel
theorem dX9_comesBundle_202 : decode cX9_comesBundle 202 = .ok (.iload 4, 2) := by decide +kernel
theorem dX9_comesBundle_204 : decode cX9_comesBundle 204 = .ok (.aload_n 0, 1) := by decide +kernel
theorem dX9_comesBundle_205 : decode cX9_comesBundle 205 = .ok (.getfield 86, 3) := by decide +kernel
theorem dX9_comesBundle_208 : decode cX9_comesBundle 208 = .ok (.iload 4, 2) := by decide +kernel
theorem dX9_comesBundle_210 : decode cX9_comesBundle 210 = .ok (.iaload, 1) := by decide +kernel
theorem dX9_comesBundle_211 : decode cX9_comesBundle 211 = .ok (.aload_n 0, 1) := by decide +kernel
theorem dX9_comesBundle_212 : decode cX9_comesBundle 212 = .ok (.getfield 89, 3) := by decide +kernel
theorem dX9_comesBundle_215 : decode cX9_comesBundle 215 = .ok (.iload 4, 2) := by decide +kernel
theorem dX9_comesBundle_217 : decode cX9_comesBundle 217 = .ok (.iaload, 1) := by decide +kernel
theorem dX9_comesBundle_218 : decode cX9_comesBundle 218 = .ok (.iconst (-1), 1) := by decide +kernel
theorem dX9_comesBundle_219 : decode cX9_comesBundle 219 = .ok (.invokevirtual 178, 3) := by decide +kernel
theorem dX9_comesBundle_222 : decode cX9_comesBundle 222 = .ok (.pop, 1) := by decide +kernel
theorem dX9_comesBundle_223 : decode cX9_comesBundle 223 = .ok (.iload 5, 2) := by decide +kernel
theorem dX9_comesBundle_225 : decode cX9_comesBundle 225 = .ok (.ireturn, 1) := by decide +kernel
abbrev rm_X9_comesBundle : Room := { frames := 4, cells := 0, slots := 0, locals := 91 }
def P_X9_comesBundle (i1 : Int32) (i2 : Int32) (h : HP) (Q : Int32 → HP → Prop) : Prop := (vp_in ((8 * i1) + 1) 128) ∧ (Lp3 (fun X_21 (i5_21 : Int32) (i6_21 : Int32) (h_21 : HP) => (vp_in ((8 * i1) + 7) 128) ∧ ((((h_21.1 111 ((8 * i1) + 7).toNatClampNeg) ≤ i6_21) → (P_X9_drop i1 h_21 (fun (h_132 : HP) => (vp_in (h.1 111 ((8 * i1) + 1).toNatClampNeg) 4) ∧ (((((si h_132 80 3 ((h_132.1 80 3) + i5_21)).1 99 (h.1 111 ((8 * i1) + 1).toNatClampNeg).toNatClampNeg) = 0) → (Q i5_21 (si h_132 80 3 ((h_132.1 80 3) + i5_21)))) ∧ ((¬ ((si h_132 80 3 ((h_132.1 80 3) + i5_21)).1 99 (h.1 111 ((8 * i1) + 1).toNatClampNeg).toNatClampNeg) = 0) → (((¬ i5_21 = 0) → (Lp2 (fun X_167 (i6_167 : Int32) (h_167 : HP) => ((i5_21 ≤ i6_167) → ((vp_in (h.1 111 ((8 * i1) + 1).toNatClampNeg) 4) ∧ ((vp_in (h.1 111 ((8 * i1) + 1).toNatClampNeg) 4) ∧ (P_X9_send 4 (h.1 111 ((8 * i1) + 1).toNatClampNeg) (h_167.1 104 (h.1 111 ((8 * i1) + 1).toNatClampNeg).toNatClampNeg) (h_167.1 105 (h.1 111 ((8 * i1) + 1).toNatClampNeg).toNatClampNeg) (-1) h_167 (fun (v_219 : Int32) (h_219 : HP) => Q i5_21 h_219))))) ∧ ((¬ i5_21 ≤ i6_167) → ((vp_in i6_167 8) ∧ ((vp_in i6_167 8) ∧ (P_X9_comesNumber (h.1 111 ((8 * i1) + 1).toNatClampNeg) (h_167.1 113 i6_167.toNatClampNeg) (h_167.1 114 i6_167.toNatClampNeg) h_167 (fun (h_191 : HP) => X_167 (i6_167 + 1) h_191)))))) 0 (si h_132 80 3 ((h_132.1 80 3) + i5_21)))) ∧ ((i5_21 = 0) → (Q i5_21 (si h_132 80 3 ((h_132.1 80 3) + i5_21)))))))))) ∧ ((¬ (h_21.1 111 ((8 * i1) + 7).toNatClampNeg) ≤ i6_21) → ((vp_in (((4 * (8 * i1)) + (4 * i6_21)) + 1) 512) ∧ ((vp_in ((4 * (8 * i1)) + (4 * i6_21)) 512) ∧ ((vp_in (((4 * (8 * i1)) + (4 * i6_21)) + 2) 512) ∧ (P_X9_checkOf (h.1 111 ((8 * i1) + 1).toNatClampNeg) (h_21.1 112 ((4 * (8 * i1)) + (4 * i6_21)).toNatClampNeg) ((h_21.1 112 (((4 * (8 * i1)) + (4 * i6_21)) + 1).toNatClampNeg) ^^^ ((i2 >>> (i6_21 &&& 31)) &&& 1)) (h_21.1 112 (((4 * (8 * i1)) + (4 * i6_21)) + 2).toNatClampNeg) h_21 (fun (v_83 : Int32) (h_83 : HP) => (vp_in (((4 * (8 * i1)) + (4 * i6_21)) + 3) 512) ∧ (((¬ v_83 = (h_83.1 112 (((4 * (8 * i1)) + (4 * i6_21)) + 3).toNatClampNeg)) → (X_21 i5_21 (i6_21 + 1) h_83)) ∧ ((v_83 = (h_83.1 112 (((4 * (8 * i1)) + (4 * i6_21)) + 3).toNatClampNeg)) → ((vp_in ((4 * (8 * i1)) + (4 * i6_21)) 512) ∧ ((vp_in i5_21 8) ∧ ((vp_in i5_21 8) ∧ (X_21 (i5_21 + 1) (i6_21 + 1) (si (si h_83 113 i5_21.toNatClampNeg (h_83.1 112 ((4 * (8 * i1)) + (4 * i6_21)).toNatClampNeg)) 114 i5_21.toNatClampNeg ((h_21.1 112 (((4 * (8 * i1)) + (4 * i6_21)) + 1).toNatClampNeg) ^^^ ((i2 >>> (i6_21 &&& 31)) &&& 1))))))))))))))))) 0 0 h)
set_option maxHeartbeats 4000000 in
theorem t_X9_comesBundle {i1 : Int32} {i2 : Int32} {h : HP} {Q : Int32 → HP → Prop}  (hp : P_X9_comesBundle i1 i2 h Q) : MT yX9_comesBundle cX9_comesBundle 9 (some .int) rm_X9_comesBundle [.ref 78, .int i1, .int i2] gM SH (emb h) (pI Q) := by
  refine MT.of (by decide +kernel) (Nat.le_of_ble_eq_true rfl) (fun C hC hE => ?_)
  show SW C gM 0 [(0, .ref 78), (1, .int i1), (2, .int i2)] [] h
  unfold P_X9_comesBundle at hp
  refine x_bipush hC dX9_comesBundle_0 bp_8 ?_
  refine x_iload_n hC dX9_comesBundle_2 (lm 1 rfl) ?_
  refine x_imul hC dX9_comesBundle_3 ?_
  refine x_istore_n (lv' := [(3, .int (8 * i1)), (0, .ref 78), (1, .int i1), (2, .int i2)]) hC dX9_comesBundle_4 (by decide) rfl ?_
  refine x_aload_n hC dX9_comesBundle_5 (lm 1 rfl) ?_
  refine s_getR (r := 111) hC dX9_comesBundle_6 fk_9_107 ty_78 (fr_9_40 ty_78).1 ?_
  refine x_iload_n hC dX9_comesBundle_9 (lm 0 rfl) ?_
  refine x_iconst hC dX9_comesBundle_10 ic_1 ?_
  refine x_iadd hC dX9_comesBundle_11 ?_
  obtain ⟨ho, hp⟩ := hp
  refine s_iald hC dX9_comesBundle_12 ((fr_9_40 ty_78).2) ho ?_
  refine x_istore (lv' := [(4, .int (h.1 111 ((8 * i1) + 1).toNatClampNeg)), (3, .int (8 * i1)), (0, .ref 78), (1, .int i1), (2, .int i2)]) hC dX9_comesBundle_13 (by decide) rfl ?_
  refine x_iconst hC dX9_comesBundle_15 ic_0 ?_
  refine x_istore (lv' := [(5, .int 0), (4, .int (h.1 111 ((8 * i1) + 1).toNatClampNeg)), (3, .int (8 * i1)), (0, .ref 78), (1, .int i1), (2, .int i2)]) hC dX9_comesBundle_16 (by decide) rfl ?_
  refine x_iconst hC dX9_comesBundle_18 ic_0 ?_
  refine x_istore (lv' := [(6, .int 0), (5, .int 0), (4, .int (h.1 111 ((8 * i1) + 1).toNatClampNeg)), (3, .int (8 * i1)), (0, .ref 78), (1, .int i1), (2, .int i2)]) hC dX9_comesBundle_19 (by decide) rfl ?_
  refine x_subk (lv' := [(0, .ref 78), (1, .int i1), (2, .int i2), (3, .int (8 * i1)), (4, .int (h.1 111 ((8 * i1) + 1).toNatClampNeg)), (5, .int 0), (6, .int 0)]) [4, 5, 6, 3, 2, 1, 0] rfl ?_
  refine hp (fun i5_21 i6_21 h_21 => SW C gM 21 [(0, .ref 78), (1, .int i1), (2, .int i2), (3, .int (8 * i1)), (4, .int (h.1 111 ((8 * i1) + 1).toNatClampNeg)), (5, .int i5_21), (6, .int i6_21)] [] h_21) (fun i5_21 i6_21 h_21 hp => ?_)
  refine x_iload hC dX9_comesBundle_21 (lm 6 rfl) ?_
  refine x_aload_n hC dX9_comesBundle_23 (lm 0 rfl) ?_
  refine s_getR (r := 111) hC dX9_comesBundle_24 fk_9_107 ty_78 (fr_9_40 ty_78).1 ?_
  refine x_iload_n hC dX9_comesBundle_27 (lm 3 rfl) ?_
  refine x_bipush hC dX9_comesBundle_28 bp_7 ?_
  refine x_iadd hC dX9_comesBundle_30 ?_
  obtain ⟨ho, hp⟩ := hp
  refine s_iald hC dX9_comesBundle_31 ((fr_9_40 ty_78).2) ho ?_
  refine x_icmp_ge (tgt := 130) hC dX9_comesBundle_32 (by decide) (fun hc => ?_) (fun hc => ?_)
  · have hp := hp.1 hc
    refine x_aload_n hC dX9_comesBundle_130 (lm 0 rfl) ?_
    refine x_iload_n hC dX9_comesBundle_131 (lm 1 rfl) ?_
    refine s_callVv (avs := [.int i1]) (st := []) hC dX9_comesBundle_132 ml_9_164 mi_X9_drop ty_78 rfl (t_X9_drop  hp) (Nat.le_of_ble_eq_true rfl) ⟨rfl, rfl⟩ ⟨Nat.le_of_ble_eq_true rfl, Nat.le_of_ble_eq_true rfl⟩ (fun h_132 hp => ?_)
    refine x_aload_n hC dX9_comesBundle_135 (lm 0 rfl) ?_
    refine s_getR (r := 80) hC dX9_comesBundle_136 fk_9_13 ty_78 (fr_9_8 ty_78).1 ?_
    refine x_iconst hC dX9_comesBundle_139 ic_3 ?_
    refine x_dup2 hC dX9_comesBundle_140 rfl rfl ?_
    refine s_iald hC dX9_comesBundle_141 ((fr_9_8 ty_78).2) (vi (by decide)) ?_
    refine x_iload hC dX9_comesBundle_142 (lm 5 rfl) ?_
    refine x_iadd hC dX9_comesBundle_144 ?_
    refine s_iast hC dX9_comesBundle_145 ((fr_9_8 ty_78).2) (vi (by decide)) ?_
    refine x_aload_n hC dX9_comesBundle_146 (lm 0 rfl) ?_
    refine s_getR (r := 99) hC dX9_comesBundle_147 fk_9_71 ty_78 (fr_9_27 ty_78).1 ?_
    refine x_iload hC dX9_comesBundle_150 (lm 4 rfl) ?_
    obtain ⟨ho, hp⟩ := hp
    refine s_zald hC dX9_comesBundle_152 ((fr_9_27 ty_78).2) ho ?_
    refine x_if_eq (tgt := 161) hC dX9_comesBundle_153 (by decide) (fun hc => ?_) (fun hc => ?_)
    · have hp := hp.1 hc
      refine x_iload hC dX9_comesBundle_161 (lm 5 rfl) ?_
      exact x_iret hC hE dX9_comesBundle_163 ⟨_, _, rfl, rfl, hp⟩
    · have hp := hp.2 hc
      refine x_iload hC dX9_comesBundle_156 (lm 5 rfl) ?_
      refine x_if_ne (tgt := 164) hC dX9_comesBundle_158 (by decide) (fun hc => ?_) (fun hc => ?_)
      · have hp := hp.1 hc
        refine x_iconst hC dX9_comesBundle_164 ic_0 ?_
        refine x_istore (lv' := [(6, .int 0), (0, .ref 78), (1, .int i1), (2, .int i2), (3, .int (8 * i1)), (4, .int (h.1 111 ((8 * i1) + 1).toNatClampNeg)), (5, .int i5_21)]) hC dX9_comesBundle_165 (by decide) rfl ?_
        refine x_subk (lv' := [(0, .ref 78), (4, .int (h.1 111 ((8 * i1) + 1).toNatClampNeg)), (5, .int i5_21), (6, .int 0)]) [1, 5, 6, 0] rfl ?_
        refine hp (fun i6_167 h_167 => SW C gM 167 [(0, .ref 78), (4, .int (h.1 111 ((8 * i1) + 1).toNatClampNeg)), (5, .int i5_21), (6, .int i6_167)] [] h_167) (fun i6_167 h_167 hp => ?_)
        refine x_iload hC dX9_comesBundle_167 (lm 3 rfl) ?_
        refine x_iload hC dX9_comesBundle_169 (lm 2 rfl) ?_
        refine x_icmp_ge (tgt := 200) hC dX9_comesBundle_171 (by decide) (fun hc => ?_) (fun hc => ?_)
        · have hp := hp.1 hc
          refine x_aload_n hC dX9_comesBundle_200 (lm 0 rfl) ?_
          refine x_iconst hC dX9_comesBundle_201 ic_4 ?_
          refine x_iload hC dX9_comesBundle_202 (lm 1 rfl) ?_
          refine x_aload_n hC dX9_comesBundle_204 (lm 0 rfl) ?_
          refine s_getR (r := 104) hC dX9_comesBundle_205 fk_9_86 ty_78 (fr_9_32 ty_78).1 ?_
          refine x_iload hC dX9_comesBundle_208 (lm 1 rfl) ?_
          obtain ⟨ho, hp⟩ := hp
          refine s_iald hC dX9_comesBundle_210 ((fr_9_32 ty_78).2) ho ?_
          refine x_aload_n hC dX9_comesBundle_211 (lm 0 rfl) ?_
          refine s_getR (r := 105) hC dX9_comesBundle_212 fk_9_89 ty_78 (fr_9_33 ty_78).1 ?_
          refine x_iload hC dX9_comesBundle_215 (lm 1 rfl) ?_
          obtain ⟨ho, hp⟩ := hp
          refine s_iald hC dX9_comesBundle_217 ((fr_9_33 ty_78).2) ho ?_
          refine x_iconst hC dX9_comesBundle_218 ic_m1 ?_
          refine s_callVi (avs := [.int 4, .int (h.1 111 ((8 * i1) + 1).toNatClampNeg), .int (h_167.1 104 (h.1 111 ((8 * i1) + 1).toNatClampNeg).toNatClampNeg), .int (h_167.1 105 (h.1 111 ((8 * i1) + 1).toNatClampNeg).toNatClampNeg), .int (-1)]) (st := []) hC dX9_comesBundle_219 ml_9_178 mi_X9_send ty_78 rfl (t_X9_send  hp) (Nat.le_of_ble_eq_true rfl) ⟨rfl, rfl⟩ ⟨Nat.le_of_ble_eq_true rfl, Nat.le_of_ble_eq_true rfl⟩ (fun v_219 h_219 hp => ?_)
          refine x_pop hC dX9_comesBundle_222 rfl ?_
          refine x_iload hC dX9_comesBundle_223 (lm 2 rfl) ?_
          exact x_iret hC hE dX9_comesBundle_225 ⟨_, _, rfl, rfl, hp⟩
        · have hp := hp.2 hc
          refine x_aload_n hC dX9_comesBundle_174 (lm 0 rfl) ?_
          refine x_iload hC dX9_comesBundle_175 (lm 1 rfl) ?_
          refine x_aload_n hC dX9_comesBundle_177 (lm 0 rfl) ?_
          refine s_getR (r := 113) hC dX9_comesBundle_178 fk_9_113 ty_78 (fr_9_46 ty_78).1 ?_
          refine x_iload hC dX9_comesBundle_181 (lm 3 rfl) ?_
          obtain ⟨ho, hp⟩ := hp
          refine s_iald hC dX9_comesBundle_183 ((fr_9_46 ty_78).2) ho ?_
          refine x_aload_n hC dX9_comesBundle_184 (lm 0 rfl) ?_
          refine s_getR (r := 114) hC dX9_comesBundle_185 fk_9_116 ty_78 (fr_9_47 ty_78).1 ?_
          refine x_iload hC dX9_comesBundle_188 (lm 3 rfl) ?_
          obtain ⟨ho, hp⟩ := hp
          refine s_iald hC dX9_comesBundle_190 ((fr_9_47 ty_78).2) ho ?_
          refine s_callVv (avs := [.int (h.1 111 ((8 * i1) + 1).toNatClampNeg), .int (h_167.1 113 i6_167.toNatClampNeg), .int (h_167.1 114 i6_167.toNatClampNeg)]) (st := []) hC dX9_comesBundle_191 ml_9_262 mi_X9_comesNumber ty_78 rfl (t_X9_comesNumber  hp) (Nat.le_of_ble_eq_true rfl) ⟨rfl, rfl⟩ ⟨Nat.le_of_ble_eq_true rfl, Nat.le_of_ble_eq_true rfl⟩ (fun h_191 hp => ?_)
          refine x_iinc (u := i6_167 + 1) (lv' := [(6, .int (i6_167 + 1)), (0, .ref 78), (4, .int (h.1 111 ((8 * i1) + 1).toNatClampNeg)), (5, .int i5_21)]) hC dX9_comesBundle_194 (lm 3 rfl) (congrArg _ ic_1) (by decide) rfl ?_
          refine x_goto (tgt := 167) hC dX9_comesBundle_197 (by decide) ?_
          exact x_subk [1, 2, 3, 0] rfl hp
      · have hp := hp.2 hc
        refine x_iload hC dX9_comesBundle_161 (lm 5 rfl) ?_
        exact x_iret hC hE dX9_comesBundle_163 ⟨_, _, rfl, rfl, hp⟩
  · have hp := hp.2 hc
    refine x_iconst hC dX9_comesBundle_35 ic_4 ?_
    refine x_iload_n hC dX9_comesBundle_36 (lm 3 rfl) ?_
    refine x_imul hC dX9_comesBundle_37 ?_
    refine x_iconst hC dX9_comesBundle_38 ic_4 ?_
    refine x_iload hC dX9_comesBundle_39 (lm 6 rfl) ?_
    refine x_imul hC dX9_comesBundle_41 ?_
    refine x_iadd hC dX9_comesBundle_42 ?_
    refine x_istore (lv' := [(7, .int ((4 * (8 * i1)) + (4 * i6_21))), (0, .ref 78), (1, .int i1), (2, .int i2), (3, .int (8 * i1)), (4, .int (h.1 111 ((8 * i1) + 1).toNatClampNeg)), (5, .int i5_21), (6, .int i6_21)]) hC dX9_comesBundle_43 (by decide) rfl ?_
    refine x_aload_n hC dX9_comesBundle_45 (lm 1 rfl) ?_
    refine s_getR (r := 112) hC dX9_comesBundle_46 fk_9_110 ty_78 (fr_9_41 ty_78).1 ?_
    refine x_iload hC dX9_comesBundle_49 (lm 0 rfl) ?_
    refine x_iconst hC dX9_comesBundle_51 ic_1 ?_
    refine x_iadd hC dX9_comesBundle_52 ?_
    obtain ⟨ho, hp⟩ := hp
    refine s_iald hC dX9_comesBundle_53 ((fr_9_41 ty_78).2) ho ?_
    refine x_iload_n hC dX9_comesBundle_54 (lm 3 rfl) ?_
    refine x_iload hC dX9_comesBundle_55 (lm 7 rfl) ?_
    refine x_ishr hC dX9_comesBundle_57 ?_
    refine x_iconst hC dX9_comesBundle_58 ic_1 ?_
    refine x_iand hC dX9_comesBundle_59 ?_
    refine x_ixor hC dX9_comesBundle_60 ?_
    refine x_istore (lv' := [(8, .int ((h_21.1 112 (((4 * (8 * i1)) + (4 * i6_21)) + 1).toNatClampNeg) ^^^ ((i2 >>> (i6_21 &&& 31)) &&& 1))), (7, .int ((4 * (8 * i1)) + (4 * i6_21))), (0, .ref 78), (1, .int i1), (2, .int i2), (3, .int (8 * i1)), (4, .int (h.1 111 ((8 * i1) + 1).toNatClampNeg)), (5, .int i5_21), (6, .int i6_21)]) hC dX9_comesBundle_61 (by decide) rfl ?_
    refine x_iload hC dX9_comesBundle_63 (lm 6 rfl) ?_
    refine x_aload_n hC dX9_comesBundle_65 (lm 2 rfl) ?_
    refine s_getR (r := 112) hC dX9_comesBundle_66 fk_9_110 ty_78 (fr_9_41 ty_78).1 ?_
    refine x_iload hC dX9_comesBundle_69 (lm 1 rfl) ?_
    obtain ⟨ho, hp⟩ := hp
    refine s_iald hC dX9_comesBundle_71 ((fr_9_41 ty_78).2) ho ?_
    refine x_iload hC dX9_comesBundle_72 (lm 0 rfl) ?_
    refine x_aload_n hC dX9_comesBundle_74 (lm 2 rfl) ?_
    refine s_getR (r := 112) hC dX9_comesBundle_75 fk_9_110 ty_78 (fr_9_41 ty_78).1 ?_
    refine x_iload hC dX9_comesBundle_78 (lm 1 rfl) ?_
    refine x_iconst hC dX9_comesBundle_80 ic_2 ?_
    refine x_iadd hC dX9_comesBundle_81 ?_
    obtain ⟨ho, hp⟩ := hp
    refine s_iald hC dX9_comesBundle_82 ((fr_9_41 ty_78).2) ho ?_
    refine s_callSi (avs := [.int (h.1 111 ((8 * i1) + 1).toNatClampNeg), .int (h_21.1 112 ((4 * (8 * i1)) + (4 * i6_21)).toNatClampNeg), .int ((h_21.1 112 (((4 * (8 * i1)) + (4 * i6_21)) + 1).toNatClampNeg) ^^^ ((i2 >>> (i6_21 &&& 31)) &&& 1)), .int (h_21.1 112 (((4 * (8 * i1)) + (4 * i6_21)) + 2).toNatClampNeg)]) (st := []) hC dX9_comesBundle_83 ml_9_213 ms_X9_checkOf rfl (t_X9_checkOf  hp) (Nat.le_of_ble_eq_true rfl) ⟨rfl, rfl⟩ ⟨Nat.le_of_ble_eq_true rfl, Nat.le_of_ble_eq_true rfl⟩ (fun v_83 h_83 hp => ?_)
    refine x_aload_n hC dX9_comesBundle_86 (lm 2 rfl) ?_
    refine s_getR (r := 112) hC dX9_comesBundle_87 fk_9_110 ty_78 (fr_9_41 ty_78).1 ?_
    refine x_iload hC dX9_comesBundle_90 (lm 1 rfl) ?_
    refine x_iconst hC dX9_comesBundle_92 ic_3 ?_
    refine x_iadd hC dX9_comesBundle_93 ?_
    obtain ⟨ho, hp⟩ := hp
    refine s_iald hC dX9_comesBundle_94 ((fr_9_41 ty_78).2) ho ?_
    refine x_icmp_ne (tgt := 124) hC dX9_comesBundle_95 (by decide) (fun hc => ?_) (fun hc => ?_)
    · have hp := hp.1 hc
      refine x_iinc (u := i6_21 + 1) (lv' := [(6, .int (i6_21 + 1)), (8, .int ((h_21.1 112 (((4 * (8 * i1)) + (4 * i6_21)) + 1).toNatClampNeg) ^^^ ((i2 >>> (i6_21 &&& 31)) &&& 1))), (7, .int ((4 * (8 * i1)) + (4 * i6_21))), (0, .ref 78), (1, .int i1), (2, .int i2), (3, .int (8 * i1)), (4, .int (h.1 111 ((8 * i1) + 1).toNatClampNeg)), (5, .int i5_21)]) hC dX9_comesBundle_124 (lm 8 rfl) (congrArg _ ic_1) (by decide) rfl ?_
      refine x_goto (tgt := 21) hC dX9_comesBundle_127 (by decide) ?_
      exact x_subk [3, 4, 5, 6, 7, 8, 0] rfl hp
    · have hp := hp.2 hc
      refine x_aload_n hC dX9_comesBundle_98 (lm 2 rfl) ?_
      refine s_getR (r := 113) hC dX9_comesBundle_99 fk_9_113 ty_78 (fr_9_46 ty_78).1 ?_
      refine x_iload hC dX9_comesBundle_102 (lm 7 rfl) ?_
      refine x_aload_n hC dX9_comesBundle_104 (lm 2 rfl) ?_
      refine s_getR (r := 112) hC dX9_comesBundle_105 fk_9_110 ty_78 (fr_9_41 ty_78).1 ?_
      refine x_iload hC dX9_comesBundle_108 (lm 1 rfl) ?_
      obtain ⟨ho, hp⟩ := hp
      refine s_iald hC dX9_comesBundle_110 ((fr_9_41 ty_78).2) ho ?_
      obtain ⟨ho, hp⟩ := hp
      refine s_iast hC dX9_comesBundle_111 ((fr_9_46 ty_78).2) ho ?_
      refine x_aload_n hC dX9_comesBundle_112 (lm 2 rfl) ?_
      refine s_getR (r := 114) hC dX9_comesBundle_113 fk_9_116 ty_78 (fr_9_47 ty_78).1 ?_
      refine x_iload hC dX9_comesBundle_116 (lm 7 rfl) ?_
      refine x_iload hC dX9_comesBundle_118 (lm 0 rfl) ?_
      obtain ⟨ho, hp⟩ := hp
      refine s_iast hC dX9_comesBundle_120 ((fr_9_47 ty_78).2) ho ?_
      refine x_iinc (u := i5_21 + 1) (lv' := [(5, .int (i5_21 + 1)), (8, .int ((h_21.1 112 (((4 * (8 * i1)) + (4 * i6_21)) + 1).toNatClampNeg) ^^^ ((i2 >>> (i6_21 &&& 31)) &&& 1))), (7, .int ((4 * (8 * i1)) + (4 * i6_21))), (0, .ref 78), (1, .int i1), (2, .int i2), (3, .int (8 * i1)), (4, .int (h.1 111 ((8 * i1) + 1).toNatClampNeg)), (6, .int i6_21)]) hC dX9_comesBundle_121 (lm 7 rfl) (congrArg _ ic_1) (by decide) rfl ?_
      refine x_iinc (u := i6_21 + 1) (lv' := [(6, .int (i6_21 + 1)), (5, .int (i5_21 + 1)), (8, .int ((h_21.1 112 (((4 * (8 * i1)) + (4 * i6_21)) + 1).toNatClampNeg) ^^^ ((i2 >>> (i6_21 &&& 31)) &&& 1))), (7, .int ((4 * (8 * i1)) + (4 * i6_21))), (0, .ref 78), (1, .int i1), (2, .int i2), (3, .int (8 * i1)), (4, .int (h.1 111 ((8 * i1) + 1).toNatClampNeg))]) hC dX9_comesBundle_124 (lm 8 rfl) (congrArg _ ic_1) (by decide) rfl ?_
      refine x_goto (tgt := 21) hC dX9_comesBundle_127 (by decide) ?_
      exact x_subk [4, 5, 6, 7, 8, 1, 0] rfl hp
theorem dX9_comesOther_0 : decode cX9_comesOther 0 = .ok (.bipush 8, 2) := by decide +kernel
theorem dX9_comesOther_2 : decode cX9_comesOther 2 = .ok (.iload_n 1, 1) := by decide +kernel
theorem dX9_comesOther_3 : decode cX9_comesOther 3 = .ok (.imul, 1) := by decide +kernel
theorem dX9_comesOther_4 : decode cX9_comesOther 4 = .ok (.istore_n 2, 1) := by decide +kernel
theorem dX9_comesOther_5 : decode cX9_comesOther 5 = .ok (.aload_n 0, 1) := by decide +kernel
theorem dX9_comesOther_6 : decode cX9_comesOther 6 = .ok (.getfield 107, 3) := by decide +kernel
theorem dX9_comesOther_9 : decode cX9_comesOther 9 = .ok (.iload_n 2, 1) := by decide +kernel
theorem dX9_comesOther_10 : decode cX9_comesOther 10 = .ok (.iaload, 1) := by decide +kernel
theorem dX9_comesOther_11 : decode cX9_comesOther 11 = .ok (.istore_n 3, 1) := by decide +kernel
theorem dX9_comesOther_12 : decode cX9_comesOther 12 = .ok (.aload_n 0, 1) := by decide +kernel
theorem dX9_comesOther_13 : decode cX9_comesOther 13 = .ok (.getfield 107, 3) := by decide +kernel
theorem dX9_comesOther_16 : decode cX9_comesOther 16 = .ok (.iload_n 2, 1) := by decide +kernel
theorem dX9_comesOther_17 : decode cX9_comesOther 17 = .ok (.iconst 1, 1) := by decide +kernel
theorem dX9_comesOther_18 : decode cX9_comesOther 18 = .ok (.iadd, 1) := by decide +kernel
theorem dX9_comesOther_19 : decode cX9_comesOther 19 = .ok (.iaload, 1) := by decide +kernel
theorem dX9_comesOther_20 : decode cX9_comesOther 20 = .ok (.istore 4, 2) := by decide +kernel
theorem dX9_comesOther_22 : decode cX9_comesOther 22 = .ok (.aload_n 0, 1) := by decide +kernel
theorem dX9_comesOther_23 : decode cX9_comesOther 23 = .ok (.getfield 107, 3) := by decide +kernel
theorem dX9_comesOther_26 : decode cX9_comesOther 26 = .ok (.iload_n 2, 1) := by decide +kernel
theorem dX9_comesOther_27 : decode cX9_comesOther 27 = .ok (.iconst 2, 1) := by decide +kernel
theorem dX9_comesOther_28 : decode cX9_comesOther 28 = .ok (.iadd, 1) := by decide +kernel
theorem dX9_comesOther_29 : decode cX9_comesOther 29 = .ok (.iaload, 1) := by decide +kernel
theorem dX9_comesOther_30 : decode cX9_comesOther 30 = .ok (.istore 5, 2) := by decide +kernel
theorem dX9_comesOther_32 : decode cX9_comesOther 32 = .ok (.aload_n 0, 1) := by decide +kernel
theorem dX9_comesOther_33 : decode cX9_comesOther 33 = .ok (.getfield 107, 3) := by decide +kernel
theorem dX9_comesOther_36 : decode cX9_comesOther 36 = .ok (.iload_n 2, 1) := by decide +kernel
theorem dX9_comesOther_37 : decode cX9_comesOther 37 = .ok (.iconst 3, 1) := by decide +kernel
theorem dX9_comesOther_38 : decode cX9_comesOther 38 = .ok (.iadd, 1) := by decide +kernel
theorem dX9_comesOther_39 : decode cX9_comesOther 39 = .ok (.iaload, 1) := by decide +kernel
theorem dX9_comesOther_40 : decode cX9_comesOther 40 = .ok (.istore 6, 2) := by decide +kernel
theorem dX9_comesOther_42 : decode cX9_comesOther 42 = .ok (.aload_n 0, 1) := by decide +kernel
theorem dX9_comesOther_43 : decode cX9_comesOther 43 = .ok (.getfield 107, 3) := by decide +kernel
theorem dX9_comesOther_46 : decode cX9_comesOther 46 = .ok (.iload_n 2, 1) := by decide +kernel
theorem dX9_comesOther_47 : decode cX9_comesOther 47 = .ok (.iconst 4, 1) := by decide +kernel
theorem dX9_comesOther_48 : decode cX9_comesOther 48 = .ok (.iadd, 1) := by decide +kernel
theorem dX9_comesOther_49 : decode cX9_comesOther 49 = .ok (.iaload, 1) := by decide +kernel
theorem dX9_comesOther_50 : decode cX9_comesOther 50 = .ok (.istore 7, 2) := by decide +kernel
theorem dX9_comesOther_52 : decode cX9_comesOther 52 = .ok (.aload_n 0, 1) := by decide +kernel
theorem dX9_comesOther_53 : decode cX9_comesOther 53 = .ok (.getfield 107, 3) := by decide +kernel
theorem dX9_comesOther_56 : decode cX9_comesOther 56 = .ok (.iload_n 2, 1) := by decide +kernel
theorem dX9_comesOther_57 : decode cX9_comesOther 57 = .ok (.iconst 5, 1) := by decide +kernel
theorem dX9_comesOther_58 : decode cX9_comesOther 58 = .ok (.iadd, 1) := by decide +kernel
theorem dX9_comesOther_59 : decode cX9_comesOther 59 = .ok (.iaload, 1) := by decide +kernel
theorem dX9_comesOther_60 : decode cX9_comesOther 60 = .ok (.istore 8, 2) := by decide +kernel
theorem dX9_comesOther_62 : decode cX9_comesOther 62 = .ok (.aload_n 0, 1) := by decide +kernel
theorem dX9_comesOther_63 : decode cX9_comesOther 63 = .ok (.getfield 107, 3) := by decide +kernel
theorem dX9_comesOther_66 : decode cX9_comesOther 66 = .ok (.iload_n 2, 1) := by decide +kernel
theorem dX9_comesOther_67 : decode cX9_comesOther 67 = .ok (.bipush 6, 2) := by decide +kernel
theorem dX9_comesOther_69 : decode cX9_comesOther 69 = .ok (.iadd, 1) := by decide +kernel
theorem dX9_comesOther_70 : decode cX9_comesOther 70 = .ok (.iaload, 1) := by decide +kernel
theorem dX9_comesOther_71 : decode cX9_comesOther 71 = .ok (.istore 9, 2) := by decide +kernel
theorem dX9_comesOther_73 : decode cX9_comesOther 73 = .ok (.aload_n 0, 1) := by decide +kernel
theorem dX9_comesOther_74 : decode cX9_comesOther 74 = .ok (.iload_n 1, 1) := by decide +kernel
theorem dX9_comesOther_75 : decode cX9_comesOther 75 = .ok (.invokevirtual 164, 3) := by decide +kernel
theorem dX9_comesOther_78 : decode cX9_comesOther 78 = .ok (.iload_n 3, 1) := by decide +kernel
theorem dX9_comesOther_79 : decode cX9_comesOther 79 = .ok (.tableswitch 83 0 4 #[33, 48, 83, 59, 70], 33) := by decide +kernel
theorem dX9_comesOther_112 : decode cX9_comesOther 112 = .ok (.aload_n 0, 1) := by decide +kernel
theorem dX9_comesOther_113 : decode cX9_comesOther 113 = .ok (.iload 4, 2) := by decide +kernel
theorem dX9_comesOther_115 : decode cX9_comesOther 115 = .ok (.iload 8, 2) := by decide +kernel
theorem dX9_comesOther_117 : decode cX9_comesOther 117 = .ok (.iload 7, 2) := by decide +kernel
theorem dX9_comesOther_119 : decode cX9_comesOther 119 = .ok (.iload 9, 2) := by decide +kernel
theorem dX9_comesOther_121 : decode cX9_comesOther 121 = .ok (.invokevirtual 265, 3) := by decide +kernel
theorem dX9_comesOther_124 : decode cX9_comesOther 124 = .ok (.goto 44, 3) := by decide +kernel
theorem dX9_comesOther_127 : decode cX9_comesOther 127 = .ok (.aload_n 0, 1) := by decide +kernel
theorem dX9_comesOther_128 : decode cX9_comesOther 128 = .ok (.iload 4, 2) := by decide +kernel
theorem dX9_comesOther_130 : decode cX9_comesOther 130 = .ok (.iload 7, 2) := by decide +kernel
theorem dX9_comesOther_132 : decode cX9_comesOther 132 = .ok (.invokevirtual 269, 3) := by decide +kernel
theorem dX9_comesOther_135 : decode cX9_comesOther 135 = .ok (.goto 33, 3) := by decide +kernel
theorem dX9_comesOther_138 : decode cX9_comesOther 138 = .ok (.aload_n 0, 1) := by decide +kernel
theorem dX9_comesOther_139 : decode cX9_comesOther 139 = .ok (.iload 4, 2) := by decide +kernel
theorem dX9_comesOther_141 : decode cX9_comesOther 141 = .ok (.iload 5, 2) := by decide +kernel
theorem dX9_comesOther_143 : decode cX9_comesOther 143 = .ok (.invokevirtual 272, 3) := by decide +kernel
theorem dX9_comesOther_146 : decode cX9_comesOther 146 = .ok (.goto 22, 3) := by decide +kernel
theorem dX9_comesOther_149 : decode cX9_comesOther 149 = .ok (.aload_n 0, 1) := by decide +kernel
theorem dX9_comesOther_150 : decode cX9_comesOther 150 = .ok (.iload 4, 2) := by decide +kernel
theorem dX9_comesOther_152 : decode cX9_comesOther 152 = .ok (.iload 5, 2) := by decide +kernel
theorem dX9_comesOther_154 : decode cX9_comesOther 154 = .ok (.iload 6, 2) := by decide +kernel
theorem dX9_comesOther_156 : decode cX9_comesOther 156 = .ok (.invokevirtual 275, 3) := by decide +kernel
theorem dX9_comesOther_159 : decode cX9_comesOther 159 = .ok (.goto 9, 3) := by decide +kernel
theorem dX9_comesOther_162 : decode cX9_comesOther 162 = .ok (.aload_n 0, 1) := by decide +kernel
theorem dX9_comesOther_163 : decode cX9_comesOther 163 = .ok (.iload 4, 2) := by decide +kernel
theorem dX9_comesOther_165 : decode cX9_comesOther 165 = .ok (.invokevirtual 259, 3) := by decide +kernel
theorem dX9_comesOther_168 : decode cX9_comesOther 168 = .ok (.return_, 1) := by decide +kernel
abbrev rm_X9_comesOther : Room := { frames := 4, cells := 0, slots := 0, locals := 89 }
def P_X9_comesOther (i1 : Int32) (h : HP) (Q : HP → Prop) : Prop := (vp_in (8 * i1) 128) ∧ ((vp_in ((8 * i1) + 1) 128) ∧ ((vp_in ((8 * i1) + 2) 128) ∧ ((vp_in ((8 * i1) + 3) 128) ∧ ((vp_in ((8 * i1) + 4) 128) ∧ ((vp_in ((8 * i1) + 5) 128) ∧ ((vp_in ((8 * i1) + 6) 128) ∧ (P_X9_drop i1 h (fun (h_75 : HP) => ((h.1 111 (8 * i1).toNatClampNeg).toInt = 0 → (P_X9_comesAsk (h.1 111 ((8 * i1) + 1).toNatClampNeg) (h.1 111 ((8 * i1) + 5).toNatClampNeg) (h.1 111 ((8 * i1) + 4).toNatClampNeg) (h.1 111 ((8 * i1) + 6).toNatClampNeg) h_75 (fun (h_121 : HP) => Q h_121))) ∧ ((h.1 111 (8 * i1).toNatClampNeg).toInt = 1 → (P_X9_comesYes (h.1 111 ((8 * i1) + 1).toNatClampNeg) (h.1 111 ((8 * i1) + 4).toNatClampNeg) h_75 (fun (h_132 : HP) => Q h_132))) ∧ ((h.1 111 (8 * i1).toNatClampNeg).toInt = 2 → (P_X9_ends (h.1 111 ((8 * i1) + 1).toNatClampNeg) h_75 (fun (h_165 : HP) => Q h_165))) ∧ ((h.1 111 (8 * i1).toNatClampNeg).toInt = 3 → (P_X9_comesBar (h.1 111 ((8 * i1) + 1).toNatClampNeg) (h.1 111 ((8 * i1) + 2).toNatClampNeg) h_75 (fun (h_143 : HP) => Q h_143))) ∧ ((h.1 111 (8 * i1).toNatClampNeg).toInt = 4 → (P_X9_comesAnswer (h.1 111 ((8 * i1) + 1).toNatClampNeg) (h.1 111 ((8 * i1) + 2).toNatClampNeg) (h.1 111 ((8 * i1) + 3).toNatClampNeg) h_75 (fun (h_156 : HP) => Q h_156))) ∧ (((h.1 111 (8 * i1).toNatClampNeg).toInt < 0 ∨ 4 < (h.1 111 (8 * i1).toNatClampNeg).toInt) → (P_X9_ends (h.1 111 ((8 * i1) + 1).toNatClampNeg) h_75 (fun (h_165 : HP) => Q h_165)))))))))))
set_option maxHeartbeats 4000000 in
theorem t_X9_comesOther {i1 : Int32} {h : HP} {Q : HP → Prop}  (hp : P_X9_comesOther i1 h Q) : MT yX9_comesOther cX9_comesOther 10 none rm_X9_comesOther [.ref 78, .int i1] gM SH (emb h) (pV Q) := by
  refine MT.of (by decide +kernel) (Nat.le_of_ble_eq_true rfl) (fun C hC hE => ?_)
  show SW C gM 0 [(0, .ref 78), (1, .int i1)] [] h
  unfold P_X9_comesOther at hp
  refine x_bipush hC dX9_comesOther_0 bp_8 ?_
  refine x_iload_n hC dX9_comesOther_2 (lm 1 rfl) ?_
  refine x_imul hC dX9_comesOther_3 ?_
  refine x_istore_n (lv' := [(2, .int (8 * i1)), (0, .ref 78), (1, .int i1)]) hC dX9_comesOther_4 (by decide) rfl ?_
  refine x_aload_n hC dX9_comesOther_5 (lm 1 rfl) ?_
  refine s_getR (r := 111) hC dX9_comesOther_6 fk_9_107 ty_78 (fr_9_40 ty_78).1 ?_
  refine x_iload_n hC dX9_comesOther_9 (lm 0 rfl) ?_
  obtain ⟨ho, hp⟩ := hp
  refine s_iald hC dX9_comesOther_10 ((fr_9_40 ty_78).2) ho ?_
  refine x_istore_n (lv' := [(3, .int (h.1 111 (8 * i1).toNatClampNeg)), (2, .int (8 * i1)), (0, .ref 78), (1, .int i1)]) hC dX9_comesOther_11 (by decide) rfl ?_
  refine x_aload_n hC dX9_comesOther_12 (lm 2 rfl) ?_
  refine s_getR (r := 111) hC dX9_comesOther_13 fk_9_107 ty_78 (fr_9_40 ty_78).1 ?_
  refine x_iload_n hC dX9_comesOther_16 (lm 1 rfl) ?_
  refine x_iconst hC dX9_comesOther_17 ic_1 ?_
  refine x_iadd hC dX9_comesOther_18 ?_
  obtain ⟨ho, hp⟩ := hp
  refine s_iald hC dX9_comesOther_19 ((fr_9_40 ty_78).2) ho ?_
  refine x_istore (lv' := [(4, .int (h.1 111 ((8 * i1) + 1).toNatClampNeg)), (3, .int (h.1 111 (8 * i1).toNatClampNeg)), (2, .int (8 * i1)), (0, .ref 78), (1, .int i1)]) hC dX9_comesOther_20 (by decide) rfl ?_
  refine x_aload_n hC dX9_comesOther_22 (lm 3 rfl) ?_
  refine s_getR (r := 111) hC dX9_comesOther_23 fk_9_107 ty_78 (fr_9_40 ty_78).1 ?_
  refine x_iload_n hC dX9_comesOther_26 (lm 2 rfl) ?_
  refine x_iconst hC dX9_comesOther_27 ic_2 ?_
  refine x_iadd hC dX9_comesOther_28 ?_
  obtain ⟨ho, hp⟩ := hp
  refine s_iald hC dX9_comesOther_29 ((fr_9_40 ty_78).2) ho ?_
  refine x_istore (lv' := [(5, .int (h.1 111 ((8 * i1) + 2).toNatClampNeg)), (4, .int (h.1 111 ((8 * i1) + 1).toNatClampNeg)), (3, .int (h.1 111 (8 * i1).toNatClampNeg)), (2, .int (8 * i1)), (0, .ref 78), (1, .int i1)]) hC dX9_comesOther_30 (by decide) rfl ?_
  refine x_aload_n hC dX9_comesOther_32 (lm 4 rfl) ?_
  refine s_getR (r := 111) hC dX9_comesOther_33 fk_9_107 ty_78 (fr_9_40 ty_78).1 ?_
  refine x_iload_n hC dX9_comesOther_36 (lm 3 rfl) ?_
  refine x_iconst hC dX9_comesOther_37 ic_3 ?_
  refine x_iadd hC dX9_comesOther_38 ?_
  obtain ⟨ho, hp⟩ := hp
  refine s_iald hC dX9_comesOther_39 ((fr_9_40 ty_78).2) ho ?_
  refine x_istore (lv' := [(6, .int (h.1 111 ((8 * i1) + 3).toNatClampNeg)), (5, .int (h.1 111 ((8 * i1) + 2).toNatClampNeg)), (4, .int (h.1 111 ((8 * i1) + 1).toNatClampNeg)), (3, .int (h.1 111 (8 * i1).toNatClampNeg)), (2, .int (8 * i1)), (0, .ref 78), (1, .int i1)]) hC dX9_comesOther_40 (by decide) rfl ?_
  refine x_aload_n hC dX9_comesOther_42 (lm 5 rfl) ?_
  refine s_getR (r := 111) hC dX9_comesOther_43 fk_9_107 ty_78 (fr_9_40 ty_78).1 ?_
  refine x_iload_n hC dX9_comesOther_46 (lm 4 rfl) ?_
  refine x_iconst hC dX9_comesOther_47 ic_4 ?_
  refine x_iadd hC dX9_comesOther_48 ?_
  obtain ⟨ho, hp⟩ := hp
  refine s_iald hC dX9_comesOther_49 ((fr_9_40 ty_78).2) ho ?_
  refine x_istore (lv' := [(7, .int (h.1 111 ((8 * i1) + 4).toNatClampNeg)), (6, .int (h.1 111 ((8 * i1) + 3).toNatClampNeg)), (5, .int (h.1 111 ((8 * i1) + 2).toNatClampNeg)), (4, .int (h.1 111 ((8 * i1) + 1).toNatClampNeg)), (3, .int (h.1 111 (8 * i1).toNatClampNeg)), (2, .int (8 * i1)), (0, .ref 78), (1, .int i1)]) hC dX9_comesOther_50 (by decide) rfl ?_
  refine x_aload_n hC dX9_comesOther_52 (lm 6 rfl) ?_
  refine s_getR (r := 111) hC dX9_comesOther_53 fk_9_107 ty_78 (fr_9_40 ty_78).1 ?_
  refine x_iload_n hC dX9_comesOther_56 (lm 5 rfl) ?_
  refine x_iconst hC dX9_comesOther_57 ic_5 ?_
  refine x_iadd hC dX9_comesOther_58 ?_
  obtain ⟨ho, hp⟩ := hp
  refine s_iald hC dX9_comesOther_59 ((fr_9_40 ty_78).2) ho ?_
  refine x_istore (lv' := [(8, .int (h.1 111 ((8 * i1) + 5).toNatClampNeg)), (7, .int (h.1 111 ((8 * i1) + 4).toNatClampNeg)), (6, .int (h.1 111 ((8 * i1) + 3).toNatClampNeg)), (5, .int (h.1 111 ((8 * i1) + 2).toNatClampNeg)), (4, .int (h.1 111 ((8 * i1) + 1).toNatClampNeg)), (3, .int (h.1 111 (8 * i1).toNatClampNeg)), (2, .int (8 * i1)), (0, .ref 78), (1, .int i1)]) hC dX9_comesOther_60 (by decide) rfl ?_
  refine x_aload_n hC dX9_comesOther_62 (lm 7 rfl) ?_
  refine s_getR (r := 111) hC dX9_comesOther_63 fk_9_107 ty_78 (fr_9_40 ty_78).1 ?_
  refine x_iload_n hC dX9_comesOther_66 (lm 6 rfl) ?_
  refine x_bipush hC dX9_comesOther_67 bp_6 ?_
  refine x_iadd hC dX9_comesOther_69 ?_
  obtain ⟨ho, hp⟩ := hp
  refine s_iald hC dX9_comesOther_70 ((fr_9_40 ty_78).2) ho ?_
  refine x_istore (lv' := [(9, .int (h.1 111 ((8 * i1) + 6).toNatClampNeg)), (8, .int (h.1 111 ((8 * i1) + 5).toNatClampNeg)), (7, .int (h.1 111 ((8 * i1) + 4).toNatClampNeg)), (6, .int (h.1 111 ((8 * i1) + 3).toNatClampNeg)), (5, .int (h.1 111 ((8 * i1) + 2).toNatClampNeg)), (4, .int (h.1 111 ((8 * i1) + 1).toNatClampNeg)), (3, .int (h.1 111 (8 * i1).toNatClampNeg)), (2, .int (8 * i1)), (0, .ref 78), (1, .int i1)]) hC dX9_comesOther_71 (by decide) rfl ?_
  refine x_aload_n hC dX9_comesOther_73 (lm 8 rfl) ?_
  refine x_iload_n hC dX9_comesOther_74 (lm 9 rfl) ?_
  refine s_callVv (avs := [.int i1]) (st := []) hC dX9_comesOther_75 ml_9_164 mi_X9_drop ty_78 rfl (t_X9_drop  hp) (Nat.le_of_ble_eq_true rfl) ⟨rfl, rfl⟩ ⟨Nat.le_of_ble_eq_true rfl, Nat.le_of_ble_eq_true rfl⟩ (fun h_75 hp => ?_)
  refine x_iload_n hC dX9_comesOther_78 (lm 6 rfl) ?_
  refine x_tsw (tgt := 162) hC dX9_comesOther_79 [112, 127, 162, 138, 149] (by decide) (by decide) (by decide) (fun hc => ?_) (fun i t hi hx => ?_)
  · have hp := hp.2.2.2.2.2 hc
    refine x_aload_n hC dX9_comesOther_162 (lm 8 rfl) ?_
    refine x_iload hC dX9_comesOther_163 (lm 5 rfl) ?_
    refine s_callVv (avs := [.int (h.1 111 ((8 * i1) + 1).toNatClampNeg)]) (st := []) hC dX9_comesOther_165 ml_9_259 mi_X9_ends ty_78 rfl (t_X9_ends  hp) (Nat.le_of_ble_eq_true rfl) ⟨rfl, rfl⟩ ⟨Nat.le_of_ble_eq_true rfl, Nat.le_of_ble_eq_true rfl⟩ (fun h_165 hp => ?_)
    exact x_vret hC hE dX9_comesOther_168 ⟨_, rfl, rfl, hp⟩
  · match i, hi, hx with
    | 0, hi, hx =>
      cases hi
      have hp := hp.1 hx
      refine x_aload_n hC dX9_comesOther_112 (lm 8 rfl) ?_
      refine x_iload hC dX9_comesOther_113 (lm 5 rfl) ?_
      refine x_iload hC dX9_comesOther_115 (lm 1 rfl) ?_
      refine x_iload hC dX9_comesOther_117 (lm 2 rfl) ?_
      refine x_iload hC dX9_comesOther_119 (lm 0 rfl) ?_
      refine s_callVv (avs := [.int (h.1 111 ((8 * i1) + 1).toNatClampNeg), .int (h.1 111 ((8 * i1) + 5).toNatClampNeg), .int (h.1 111 ((8 * i1) + 4).toNatClampNeg), .int (h.1 111 ((8 * i1) + 6).toNatClampNeg)]) (st := []) hC dX9_comesOther_121 ml_9_265 mi_X9_comesAsk ty_78 rfl (t_X9_comesAsk  hp) (Nat.le_of_ble_eq_true rfl) ⟨rfl, rfl⟩ ⟨Nat.le_of_ble_eq_true rfl, Nat.le_of_ble_eq_true rfl⟩ (fun h_121 hp => ?_)
      refine x_goto (tgt := 168) hC dX9_comesOther_124 (by decide) ?_
      exact x_vret hC hE dX9_comesOther_168 ⟨_, rfl, rfl, hp⟩
    | 1, hi, hx =>
      cases hi
      have hp := hp.2.1 hx
      refine x_aload_n hC dX9_comesOther_127 (lm 8 rfl) ?_
      refine x_iload hC dX9_comesOther_128 (lm 5 rfl) ?_
      refine x_iload hC dX9_comesOther_130 (lm 2 rfl) ?_
      refine s_callVv (avs := [.int (h.1 111 ((8 * i1) + 1).toNatClampNeg), .int (h.1 111 ((8 * i1) + 4).toNatClampNeg)]) (st := []) hC dX9_comesOther_132 ml_9_269 mi_X9_comesYes ty_78 rfl (t_X9_comesYes  hp) (Nat.le_of_ble_eq_true rfl) ⟨rfl, rfl⟩ ⟨Nat.le_of_ble_eq_true rfl, Nat.le_of_ble_eq_true rfl⟩ (fun h_132 hp => ?_)
      refine x_goto (tgt := 168) hC dX9_comesOther_135 (by decide) ?_
      exact x_vret hC hE dX9_comesOther_168 ⟨_, rfl, rfl, hp⟩
    | 2, hi, hx =>
      cases hi
      have hp := hp.2.2.1 hx
      refine x_aload_n hC dX9_comesOther_162 (lm 8 rfl) ?_
      refine x_iload hC dX9_comesOther_163 (lm 5 rfl) ?_
      refine s_callVv (avs := [.int (h.1 111 ((8 * i1) + 1).toNatClampNeg)]) (st := []) hC dX9_comesOther_165 ml_9_259 mi_X9_ends ty_78 rfl (t_X9_ends  hp) (Nat.le_of_ble_eq_true rfl) ⟨rfl, rfl⟩ ⟨Nat.le_of_ble_eq_true rfl, Nat.le_of_ble_eq_true rfl⟩ (fun h_165 hp => ?_)
      exact x_vret hC hE dX9_comesOther_168 ⟨_, rfl, rfl, hp⟩
    | 3, hi, hx =>
      cases hi
      have hp := hp.2.2.2.1 hx
      refine x_aload_n hC dX9_comesOther_138 (lm 8 rfl) ?_
      refine x_iload hC dX9_comesOther_139 (lm 5 rfl) ?_
      refine x_iload hC dX9_comesOther_141 (lm 4 rfl) ?_
      refine s_callVv (avs := [.int (h.1 111 ((8 * i1) + 1).toNatClampNeg), .int (h.1 111 ((8 * i1) + 2).toNatClampNeg)]) (st := []) hC dX9_comesOther_143 ml_9_272 mi_X9_comesBar ty_78 rfl (t_X9_comesBar  hp) (Nat.le_of_ble_eq_true rfl) ⟨rfl, rfl⟩ ⟨Nat.le_of_ble_eq_true rfl, Nat.le_of_ble_eq_true rfl⟩ (fun h_143 hp => ?_)
      refine x_goto (tgt := 168) hC dX9_comesOther_146 (by decide) ?_
      exact x_vret hC hE dX9_comesOther_168 ⟨_, rfl, rfl, hp⟩
    | 4, hi, hx =>
      cases hi
      have hp := hp.2.2.2.2.1 hx
      refine x_aload_n hC dX9_comesOther_149 (lm 8 rfl) ?_
      refine x_iload hC dX9_comesOther_150 (lm 5 rfl) ?_
      refine x_iload hC dX9_comesOther_152 (lm 4 rfl) ?_
      refine x_iload hC dX9_comesOther_154 (lm 3 rfl) ?_
      refine s_callVv (avs := [.int (h.1 111 ((8 * i1) + 1).toNatClampNeg), .int (h.1 111 ((8 * i1) + 2).toNatClampNeg), .int (h.1 111 ((8 * i1) + 3).toNatClampNeg)]) (st := []) hC dX9_comesOther_156 ml_9_275 mi_X9_comesAnswer ty_78 rfl (t_X9_comesAnswer  hp) (Nat.le_of_ble_eq_true rfl) ⟨rfl, rfl⟩ ⟨Nat.le_of_ble_eq_true rfl, Nat.le_of_ble_eq_true rfl⟩ (fun h_156 hp => ?_)
      refine x_goto (tgt := 168) hC dX9_comesOther_159 (by decide) ?_
      exact x_vret hC hE dX9_comesOther_168 ⟨_, rfl, rfl, hp⟩
    | i + 5, hi, hx => exact absurd hi (by simp)
