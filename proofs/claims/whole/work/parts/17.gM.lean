theorem dX9_isOpen_0 : decode cX9_isOpen 0 = .ok (.aload_n 0, 1) := by decide +kernel
theorem dX9_isOpen_1 : decode cX9_isOpen 1 = .ok (.getfield 16, 3) := by decide +kernel
theorem dX9_isOpen_4 : decode cX9_isOpen 4 = .ok (.iload_n 1, 1) := by decide +kernel
theorem dX9_isOpen_5 : decode cX9_isOpen 5 = .ok (.iaload, 1) := by decide +kernel
theorem dX9_isOpen_6 : decode cX9_isOpen 6 = .ok (.iconst 2, 1) := by decide +kernel
theorem dX9_isOpen_7 : decode cX9_isOpen 7 = .ok (.if_icmp .ne 7, 3) := by decide +kernel
theorem dX9_isOpen_10 : decode cX9_isOpen 10 = .ok (.iconst 1, 1) := by decide +kernel
theorem dX9_isOpen_11 : decode cX9_isOpen 11 = .ok (.goto 4, 3) := by decide +kernel
theorem dX9_isOpen_14 : decode cX9_isOpen 14 = .ok (.iconst 0, 1) := by decide +kernel
theorem dX9_isOpen_15 : decode cX9_isOpen 15 = .ok (.ireturn, 1) := by decide +kernel
abbrev rm_X9_isOpen : Room := { frames := 0, cells := 0, slots := 0, locals := 0 }
def P_X9_isOpen (i1 : Int32) (h : HP) (Q : Int32 → HP → Prop) : Prop := (vp_in i1 4) ∧ (((¬ (h.1 81 i1.toNatClampNeg) = 2) → Q 0 h) ∧ (((h.1 81 i1.toNatClampNeg) = 2) → Q 1 h))
set_option maxHeartbeats 4000000 in
theorem t_X9_isOpen {i1 : Int32} {h : HP} {Q : Int32 → HP → Prop}  (hp : P_X9_isOpen i1 h Q) : MT yX9_isOpen cX9_isOpen 2 (some .boolean) rm_X9_isOpen [.ref 78, .int i1] gM SH (emb h) (pI Q) := by
  refine MT.of (by decide +kernel) (Nat.le_of_ble_eq_true rfl) (fun C hC hE => ?_)
  show SW C gM 0 [(0, .ref 78), (1, .int i1)] [] h
  unfold P_X9_isOpen at hp
  refine x_aload_n hC dX9_isOpen_0 (lm 0 rfl) ?_
  refine s_getR (r := 81) hC dX9_isOpen_1 fk_9_16 ty_78 (fr_9_9 ty_78).1 ?_
  refine x_iload_n hC dX9_isOpen_4 (lm 1 rfl) ?_
  obtain ⟨ho, hp⟩ := hp
  refine s_iald hC dX9_isOpen_5 ((fr_9_9 ty_78).2) ho ?_
  refine x_iconst hC dX9_isOpen_6 ic_2 ?_
  refine x_icmp_ne (tgt := 14) hC dX9_isOpen_7 (by decide) (fun hc => ?_) (fun hc => ?_)
  · have hp := hp.1 hc
    refine x_iconst hC dX9_isOpen_14 ic_0 ?_
    exact x_zret hC hE dX9_isOpen_15 (Or.inl rfl) ⟨_, _, rfl, rfl, hp⟩
  · have hp := hp.2 hc
    refine x_iconst hC dX9_isOpen_10 ic_1 ?_
    refine x_goto (tgt := 15) hC dX9_isOpen_11 (by decide) ?_
    exact x_zret hC hE dX9_isOpen_15 (Or.inr rfl) ⟨_, _, rfl, rfl, hp⟩
theorem dX9_notDone_0 : decode cX9_notDone 0 = .ok (.iconst 0, 1) := by decide +kernel
theorem dX9_notDone_1 : decode cX9_notDone 1 = .ok (.istore_n 2, 1) := by decide +kernel
theorem dX9_notDone_2 : decode cX9_notDone 2 = .ok (.iconst 0, 1) := by decide +kernel
theorem dX9_notDone_3 : decode cX9_notDone 3 = .ok (.istore_n 3, 1) := by decide +kernel
theorem dX9_notDone_4 : decode cX9_notDone 4 = .ok (.iload_n 3, 1) := by decide +kernel
theorem dX9_notDone_5 : decode cX9_notDone 5 = .ok (.aload_n 0, 1) := by decide +kernel
theorem dX9_notDone_6 : decode cX9_notDone 6 = .ok (.getfield 31, 3) := by decide +kernel
theorem dX9_notDone_9 : decode cX9_notDone 9 = .ok (.iload_n 1, 1) := by decide +kernel
theorem dX9_notDone_10 : decode cX9_notDone 10 = .ok (.iaload, 1) := by decide +kernel
theorem dX9_notDone_11 : decode cX9_notDone 11 = .ok (.aload_n 0, 1) := by decide +kernel
theorem dX9_notDone_12 : decode cX9_notDone 12 = .ok (.getfield 34, 3) := by decide +kernel
theorem dX9_notDone_15 : decode cX9_notDone 15 = .ok (.iload_n 1, 1) := by decide +kernel
theorem dX9_notDone_16 : decode cX9_notDone 16 = .ok (.iaload, 1) := by decide +kernel
theorem dX9_notDone_17 : decode cX9_notDone 17 = .ok (.invokestatic 119, 3) := by decide +kernel
theorem dX9_notDone_20 : decode cX9_notDone 20 = .ok (.if_icmp .ge 41, 3) := by decide +kernel
theorem dX9_notDone_23 : decode cX9_notDone 23 = .ok (.iload_n 2, 1) := by decide +kernel
theorem dX9_notDone_24 : decode cX9_notDone 24 = .ok (.aload_n 0, 1) := by decide +kernel
theorem dX9_notDone_25 : decode cX9_notDone 25 = .ok (.getfield 68, 3) := by decide +kernel
theorem dX9_notDone_28 : decode cX9_notDone 28 = .ok (.bipush 64, 2) := by decide +kernel
theorem dX9_notDone_30 : decode cX9_notDone 30 = .ok (.iload_n 1, 1) := by decide +kernel
theorem dX9_notDone_31 : decode cX9_notDone 31 = .ok (.imul, 1) := by decide +kernel
theorem dX9_notDone_32 : decode cX9_notDone 32 = .ok (.aload_n 0, 1) := by decide +kernel
theorem dX9_notDone_33 : decode cX9_notDone 33 = .ok (.getfield 31, 3) := by decide +kernel
theorem dX9_notDone_36 : decode cX9_notDone 36 = .ok (.iload_n 1, 1) := by decide +kernel
theorem dX9_notDone_37 : decode cX9_notDone 37 = .ok (.iaload, 1) := by decide +kernel
theorem dX9_notDone_38 : decode cX9_notDone 38 = .ok (.iload_n 3, 1) := by decide +kernel
theorem dX9_notDone_39 : decode cX9_notDone 39 = .ok (.iadd, 1) := by decide +kernel
theorem dX9_notDone_40 : decode cX9_notDone 40 = .ok (.bipush 64, 2) := by decide +kernel
theorem dX9_notDone_42 : decode cX9_notDone 42 = .ok (.irem, 1) := by decide +kernel
theorem dX9_notDone_43 : decode cX9_notDone 43 = .ok (.iadd, 1) := by decide +kernel
theorem dX9_notDone_44 : decode cX9_notDone 44 = .ok (.baload, 1) := by decide +kernel
theorem dX9_notDone_45 : decode cX9_notDone 45 = .ok (.ifCond .eq 7, 3) := by decide +kernel
theorem dX9_notDone_48 : decode cX9_notDone 48 = .ok (.iconst 0, 1) := by decide +kernel
theorem dX9_notDone_49 : decode cX9_notDone 49 = .ok (.goto 4, 3) := by decide +kernel
theorem dX9_notDone_52 : decode cX9_notDone 52 = .ok (.iconst 1, 1) := by decide +kernel
theorem dX9_notDone_53 : decode cX9_notDone 53 = .ok (.iadd, 1) := by decide +kernel
theorem dX9_notDone_54 : decode cX9_notDone 54 = .ok (.istore_n 2, 1) := by decide +kernel
theorem dX9_notDone_55 : decode cX9_notDone 55 = .ok (.iinc 3 1, 3) := by decide +kernel
theorem dX9_notDone_58 : decode cX9_notDone 58 = .ok (.goto (-54), 3) := by decide +kernel
theorem dX9_notDone_61 : decode cX9_notDone 61 = .ok (.iload_n 2, 1) := by decide +kernel
theorem dX9_notDone_62 : decode cX9_notDone 62 = .ok (.ireturn, 1) := by decide +kernel
abbrev rm_X9_notDone : Room := { frames := 1, cells := 0, slots := 0, locals := 21 }
def P_X9_notDone (i1 : Int32) (h : HP) (Q : Int32 → HP → Prop) : Prop := Lp3 (fun X_4 (i2_4 : Int32) (i3_4 : Int32) (h_4 : HP) => (vp_in i1 4) ∧ ((vp_in i1 4) ∧ (P_X9_ahead (h_4.1 86 i1.toNatClampNeg) (h_4.1 87 i1.toNatClampNeg) h_4 (fun (v_17 : Int32) (h_17 : HP) => ((v_17 ≤ i3_4) → Q i2_4 h_17) ∧ ((¬ v_17 ≤ i3_4) → ((vp_in i1 4) ∧ ((vp_in ((64 * i1) + (((h_17.1 86 i1.toNatClampNeg) + i3_4) - ((h_17.1 86 i1.toNatClampNeg) + i3_4) / 64 * 64)) 256) ∧ ((((h_17.1 98 ((64 * i1) + (((h_17.1 86 i1.toNatClampNeg) + i3_4) - ((h_17.1 86 i1.toNatClampNeg) + i3_4) / 64 * 64)).toNatClampNeg) = 0) → (X_4 (i2_4 + 1) (i3_4 + 1) h_17)) ∧ ((¬ (h_17.1 98 ((64 * i1) + (((h_17.1 86 i1.toNatClampNeg) + i3_4) - ((h_17.1 86 i1.toNatClampNeg) + i3_4) / 64 * 64)).toNatClampNeg) = 0) → (X_4 (i2_4 + 0) (i3_4 + 1) h_17)))))))))) 0 0 h
set_option maxHeartbeats 4000000 in
theorem t_X9_notDone {i1 : Int32} {h : HP} {Q : Int32 → HP → Prop}  (hp : P_X9_notDone i1 h Q) : MT yX9_notDone cX9_notDone 4 (some .int) rm_X9_notDone [.ref 78, .int i1] gM SH (emb h) (pI Q) := by
  refine MT.of (by decide +kernel) (Nat.le_of_ble_eq_true rfl) (fun C hC hE => ?_)
  show SW C gM 0 [(0, .ref 78), (1, .int i1)] [] h
  unfold P_X9_notDone at hp
  refine x_iconst hC dX9_notDone_0 ic_0 ?_
  refine x_istore_n (lv' := [(2, .int 0), (0, .ref 78), (1, .int i1)]) hC dX9_notDone_1 (by decide) rfl ?_
  refine x_iconst hC dX9_notDone_2 ic_0 ?_
  refine x_istore_n (lv' := [(3, .int 0), (2, .int 0), (0, .ref 78), (1, .int i1)]) hC dX9_notDone_3 (by decide) rfl ?_
  refine x_subk (lv' := [(0, .ref 78), (1, .int i1), (2, .int 0), (3, .int 0)]) [2, 3, 1, 0] rfl ?_
  refine hp (fun i2_4 i3_4 h_4 => SW C gM 4 [(0, .ref 78), (1, .int i1), (2, .int i2_4), (3, .int i3_4)] [] h_4) (fun i2_4 i3_4 h_4 hp => ?_)
  refine x_iload_n hC dX9_notDone_4 (lm 3 rfl) ?_
  refine x_aload_n hC dX9_notDone_5 (lm 0 rfl) ?_
  refine s_getR (r := 86) hC dX9_notDone_6 fk_9_31 ty_78 (fr_9_14 ty_78).1 ?_
  refine x_iload_n hC dX9_notDone_9 (lm 1 rfl) ?_
  obtain ⟨ho, hp⟩ := hp
  refine s_iald hC dX9_notDone_10 ((fr_9_14 ty_78).2) ho ?_
  refine x_aload_n hC dX9_notDone_11 (lm 0 rfl) ?_
  refine s_getR (r := 87) hC dX9_notDone_12 fk_9_34 ty_78 (fr_9_15 ty_78).1 ?_
  refine x_iload_n hC dX9_notDone_15 (lm 1 rfl) ?_
  obtain ⟨ho, hp⟩ := hp
  refine s_iald hC dX9_notDone_16 ((fr_9_15 ty_78).2) ho ?_
  refine s_callSi (avs := [.int (h_4.1 86 i1.toNatClampNeg), .int (h_4.1 87 i1.toNatClampNeg)]) (st := [.int i3_4]) hC dX9_notDone_17 ml_9_119 ms_X9_ahead rfl (t_X9_ahead  hp) (Nat.le_of_ble_eq_true rfl) ⟨rfl, rfl⟩ ⟨Nat.le_of_ble_eq_true rfl, Nat.le_of_ble_eq_true rfl⟩ (fun v_17 h_17 hp => ?_)
  refine x_icmp_ge (tgt := 61) hC dX9_notDone_20 (by decide) (fun hc => ?_) (fun hc => ?_)
  · have hp := hp.1 hc
    refine x_iload_n hC dX9_notDone_61 (lm 2 rfl) ?_
    exact x_iret hC hE dX9_notDone_62 ⟨_, _, rfl, rfl, hp⟩
  · have hp := hp.2 hc
    refine x_iload_n hC dX9_notDone_23 (lm 2 rfl) ?_
    refine x_aload_n hC dX9_notDone_24 (lm 0 rfl) ?_
    refine s_getR (r := 98) hC dX9_notDone_25 fk_9_68 ty_78 (fr_9_26 ty_78).1 ?_
    refine x_bipush hC dX9_notDone_28 bp_64 ?_
    refine x_iload_n hC dX9_notDone_30 (lm 1 rfl) ?_
    refine x_imul hC dX9_notDone_31 ?_
    refine x_aload_n hC dX9_notDone_32 (lm 0 rfl) ?_
    refine s_getR (r := 86) hC dX9_notDone_33 fk_9_31 ty_78 (fr_9_14 ty_78).1 ?_
    refine x_iload_n hC dX9_notDone_36 (lm 1 rfl) ?_
    obtain ⟨ho, hp⟩ := hp
    refine s_iald hC dX9_notDone_37 ((fr_9_14 ty_78).2) ho ?_
    refine x_iload_n hC dX9_notDone_38 (lm 3 rfl) ?_
    refine x_iadd hC dX9_notDone_39 ?_
    refine x_bipush hC dX9_notDone_40 bp_64 ?_
    refine x_irem hC dX9_notDone_42 (by decide) ?_
    refine x_iadd hC dX9_notDone_43 ?_
    obtain ⟨ho, hp⟩ := hp
    refine s_zald hC dX9_notDone_44 ((fr_9_26 ty_78).2) ho ?_
    refine x_if_eq (tgt := 52) hC dX9_notDone_45 (by decide) (fun hc => ?_) (fun hc => ?_)
    · have hp := hp.1 hc
      refine x_iconst hC dX9_notDone_52 ic_1 ?_
      refine x_iadd hC dX9_notDone_53 ?_
      refine x_istore_n (lv' := [(2, .int (i2_4 + 1)), (0, .ref 78), (1, .int i1), (3, .int i3_4)]) hC dX9_notDone_54 (by decide) rfl ?_
      refine x_iinc (u := i3_4 + 1) (lv' := [(3, .int (i3_4 + 1)), (2, .int (i2_4 + 1)), (0, .ref 78), (1, .int i1)]) hC dX9_notDone_55 (lm 3 rfl) (congrArg _ ic_1) (by decide) rfl ?_
      refine x_goto (tgt := 4) hC dX9_notDone_58 (by decide) ?_
      exact x_subk [2, 3, 1, 0] rfl hp
    · have hp := hp.2 hc
      refine x_iconst hC dX9_notDone_48 ic_0 ?_
      refine x_goto (tgt := 53) hC dX9_notDone_49 (by decide) ?_
      refine x_iadd hC dX9_notDone_53 ?_
      refine x_istore_n (lv' := [(2, .int (i2_4 + 0)), (0, .ref 78), (1, .int i1), (3, .int i3_4)]) hC dX9_notDone_54 (by decide) rfl ?_
      refine x_iinc (u := i3_4 + 1) (lv' := [(3, .int (i3_4 + 1)), (2, .int (i2_4 + 0)), (0, .ref 78), (1, .int i1)]) hC dX9_notDone_55 (lm 3 rfl) (congrArg _ ic_1) (by decide) rfl ?_
      refine x_goto (tgt := 4) hC dX9_notDone_58 (by decide) ?_
      exact x_subk [2, 3, 1, 0] rfl hp
theorem dX9_close_0 : decode cX9_close 0 = .ok (.aload_n 0, 1) := by decide +kernel
theorem dX9_close_1 : decode cX9_close 1 = .ok (.iload_n 1, 1) := by decide +kernel
theorem dX9_close_2 : decode cX9_close 2 = .ok (.invokevirtual 171, 3) := by decide +kernel
theorem dX9_close_5 : decode cX9_close 5 = .ok (.ifCond .ne 6, 3) := by decide +kernel
theorem dX9_close_8 : decode cX9_close 8 = .ok (.bipush (-101), 2) := by decide +kernel
theorem dX9_close_10 : decode cX9_close 10 = .ok (.ireturn, 1) := by decide +kernel
theorem dX9_close_11 : decode cX9_close 11 = .ok (.aload_n 0, 1) := by decide +kernel
theorem dX9_close_12 : decode cX9_close 12 = .ok (.iload_n 1, 1) := by decide +kernel
theorem dX9_close_13 : decode cX9_close 13 = .ok (.invokevirtual 182, 3) := by decide +kernel
theorem dX9_close_16 : decode cX9_close 16 = .ok (.ifCond .eq 12, 3) := by decide +kernel
theorem dX9_close_19 : decode cX9_close 19 = .ok (.aload_n 0, 1) := by decide +kernel
theorem dX9_close_20 : decode cX9_close 20 = .ok (.getfield 37, 3) := by decide +kernel
theorem dX9_close_23 : decode cX9_close 23 = .ok (.iload_n 1, 1) := by decide +kernel
theorem dX9_close_24 : decode cX9_close 24 = .ok (.baload, 1) := by decide +kernel
theorem dX9_close_25 : decode cX9_close 25 = .ok (.ifCond .eq 6, 3) := by decide +kernel
theorem dX9_close_28 : decode cX9_close 28 = .ok (.bipush (-103), 2) := by decide +kernel
theorem dX9_close_30 : decode cX9_close 30 = .ok (.ireturn, 1) := by decide +kernel
theorem dX9_close_31 : decode cX9_close 31 = .ok (.aload_n 0, 1) := by decide +kernel
theorem dX9_close_32 : decode cX9_close 32 = .ok (.getfield 16, 3) := by decide +kernel
theorem dX9_close_35 : decode cX9_close 35 = .ok (.iload_n 1, 1) := by decide +kernel
theorem dX9_close_36 : decode cX9_close 36 = .ok (.iconst 0, 1) := by decide +kernel
theorem dX9_close_37 : decode cX9_close 37 = .ok (.iastore, 1) := by decide +kernel
theorem dX9_close_38 : decode cX9_close 38 = .ok (.aload_n 0, 1) := by decide +kernel
theorem dX9_close_39 : decode cX9_close 39 = .ok (.iconst 5, 1) := by decide +kernel
theorem dX9_close_40 : decode cX9_close 40 = .ok (.iload_n 1, 1) := by decide +kernel
theorem dX9_close_41 : decode cX9_close 41 = .ok (.iconst (-1), 1) := by decide +kernel
theorem dX9_close_42 : decode cX9_close 42 = .ok (.iconst (-1), 1) := by decide +kernel
theorem dX9_close_43 : decode cX9_close 43 = .ok (.iconst (-1), 1) := by decide +kernel
theorem dX9_close_44 : decode cX9_close 44 = .ok (.invokevirtual 178, 3) := by decide +kernel
theorem dX9_close_47 : decode cX9_close 47 = .ok (.pop, 1) := by decide +kernel
theorem dX9_close_48 : decode cX9_close 48 = .ok (.aload_n 0, 1) := by decide +kernel
theorem dX9_close_49 : decode cX9_close 49 = .ok (.getfield 50, 3) := by decide +kernel
theorem dX9_close_52 : decode cX9_close 52 = .ok (.iload_n 1, 1) := by decide +kernel
theorem dX9_close_53 : decode cX9_close 53 = .ok (.iaload, 1) := by decide +kernel
theorem dX9_close_54 : decode cX9_close 54 = .ok (.aload_n 0, 1) := by decide +kernel
theorem dX9_close_55 : decode cX9_close 55 = .ok (.iload_n 1, 1) := by decide +kernel
theorem dX9_close_56 : decode cX9_close 56 = .ok (.invokevirtual 185, 3) := by decide +kernel
theorem dX9_close_59 : decode cX9_close 59 = .ok (.iadd, 1) := by decide +kernel
theorem dX9_close_60 : decode cX9_close 60 = .ok (.ireturn, 1) := by decide +kernel
abbrev rm_X9_close : Room := { frames := 2, cells := 0, slots := 0, locals := 44 }
def P_X9_close (i1 : Int32) (h : HP) (Q : Int32 → HP → Prop) : Prop := P_X9_isClass i1 h (fun (v_2 : Int32) (h_2 : HP) => ((¬ v_2 = 0) → (P_X9_isOpen i1 h_2 (fun (v_13 : Int32) (h_13 : HP) => ((v_13 = 0) → (Q (-103) h_13)) ∧ ((¬ v_13 = 0) → ((vp_in i1 4) ∧ ((((h_13.1 88 i1.toNatClampNeg) = 0) → ((vp_in i1 4) ∧ (P_X9_send 5 i1 (-1) (-1) (-1) (si h_13 81 i1.toNatClampNeg 0) (fun (v_44 : Int32) (h_44 : HP) => (vp_in i1 4) ∧ (P_X9_notDone i1 h_44 (fun (v_56 : Int32) (h_56 : HP) => Q ((h_44.1 92 i1.toNatClampNeg) + v_56) h_56)))))) ∧ ((¬ (h_13.1 88 i1.toNatClampNeg) = 0) → (Q (-103) h_13)))))))) ∧ ((v_2 = 0) → (Q (-101) h_2)))
set_option maxHeartbeats 4000000 in
theorem t_X9_close {i1 : Int32} {h : HP} {Q : Int32 → HP → Prop}  (hp : P_X9_close i1 h Q) : MT yX9_close cX9_close 2 (some .int) rm_X9_close [.ref 78, .int i1] gM SH (emb h) (pI Q) := by
  refine MT.of (by decide +kernel) (Nat.le_of_ble_eq_true rfl) (fun C hC hE => ?_)
  show SW C gM 0 [(0, .ref 78), (1, .int i1)] [] h
  unfold P_X9_close at hp
  refine x_aload_n hC dX9_close_0 (lm 0 rfl) ?_
  refine x_iload_n hC dX9_close_1 (lm 1 rfl) ?_
  refine s_callVi (avs := [.int i1]) (st := []) hC dX9_close_2 ml_9_171 mi_X9_isClass ty_78 rfl (t_X9_isClass  hp) (Nat.le_of_ble_eq_true rfl) ⟨rfl, rfl⟩ ⟨Nat.le_of_ble_eq_true rfl, Nat.le_of_ble_eq_true rfl⟩ (fun v_2 h_2 hp => ?_)
  refine x_if_ne (tgt := 11) hC dX9_close_5 (by decide) (fun hc => ?_) (fun hc => ?_)
  · have hp := hp.1 hc
    refine x_aload_n hC dX9_close_11 (lm 0 rfl) ?_
    refine x_iload_n hC dX9_close_12 (lm 1 rfl) ?_
    refine s_callVi (avs := [.int i1]) (st := []) hC dX9_close_13 ml_9_182 mi_X9_isOpen ty_78 rfl (t_X9_isOpen  hp) (Nat.le_of_ble_eq_true rfl) ⟨rfl, rfl⟩ ⟨Nat.le_of_ble_eq_true rfl, Nat.le_of_ble_eq_true rfl⟩ (fun v_13 h_13 hp => ?_)
    refine x_if_eq (tgt := 28) hC dX9_close_16 (by decide) (fun hc => ?_) (fun hc => ?_)
    · have hp := hp.1 hc
      refine x_bipush hC dX9_close_28 bp_m103 ?_
      exact x_iret hC hE dX9_close_30 ⟨_, _, rfl, rfl, hp⟩
    · have hp := hp.2 hc
      refine x_aload_n hC dX9_close_19 (lm 0 rfl) ?_
      refine s_getR (r := 88) hC dX9_close_20 fk_9_37 ty_78 (fr_9_16 ty_78).1 ?_
      refine x_iload_n hC dX9_close_23 (lm 1 rfl) ?_
      obtain ⟨ho, hp⟩ := hp
      refine s_zald hC dX9_close_24 ((fr_9_16 ty_78).2) ho ?_
      refine x_if_eq (tgt := 31) hC dX9_close_25 (by decide) (fun hc => ?_) (fun hc => ?_)
      · have hp := hp.1 hc
        refine x_aload_n hC dX9_close_31 (lm 0 rfl) ?_
        refine s_getR (r := 81) hC dX9_close_32 fk_9_16 ty_78 (fr_9_9 ty_78).1 ?_
        refine x_iload_n hC dX9_close_35 (lm 1 rfl) ?_
        refine x_iconst hC dX9_close_36 ic_0 ?_
        obtain ⟨ho, hp⟩ := hp
        refine s_iast hC dX9_close_37 ((fr_9_9 ty_78).2) ho ?_
        refine x_aload_n hC dX9_close_38 (lm 0 rfl) ?_
        refine x_iconst hC dX9_close_39 ic_5 ?_
        refine x_iload_n hC dX9_close_40 (lm 1 rfl) ?_
        refine x_iconst hC dX9_close_41 ic_m1 ?_
        refine x_iconst hC dX9_close_42 ic_m1 ?_
        refine x_iconst hC dX9_close_43 ic_m1 ?_
        refine s_callVi (avs := [.int 5, .int i1, .int (-1), .int (-1), .int (-1)]) (st := []) hC dX9_close_44 ml_9_178 mi_X9_send ty_78 rfl (t_X9_send  hp) (Nat.le_of_ble_eq_true rfl) ⟨rfl, rfl⟩ ⟨Nat.le_of_ble_eq_true rfl, Nat.le_of_ble_eq_true rfl⟩ (fun v_44 h_44 hp => ?_)
        refine x_pop hC dX9_close_47 rfl ?_
        refine x_aload_n hC dX9_close_48 (lm 0 rfl) ?_
        refine s_getR (r := 92) hC dX9_close_49 fk_9_50 ty_78 (fr_9_20 ty_78).1 ?_
        refine x_iload_n hC dX9_close_52 (lm 1 rfl) ?_
        obtain ⟨ho, hp⟩ := hp
        refine s_iald hC dX9_close_53 ((fr_9_20 ty_78).2) ho ?_
        refine x_aload_n hC dX9_close_54 (lm 0 rfl) ?_
        refine x_iload_n hC dX9_close_55 (lm 1 rfl) ?_
        refine s_callVi (avs := [.int i1]) (st := [.int (h_44.1 92 i1.toNatClampNeg)]) hC dX9_close_56 ml_9_185 mi_X9_notDone ty_78 rfl (t_X9_notDone  hp) (Nat.le_of_ble_eq_true rfl) ⟨rfl, rfl⟩ ⟨Nat.le_of_ble_eq_true rfl, Nat.le_of_ble_eq_true rfl⟩ (fun v_56 h_56 hp => ?_)
        refine x_iadd hC dX9_close_59 ?_
        exact x_iret hC hE dX9_close_60 ⟨_, _, rfl, rfl, hp⟩
      · have hp := hp.2 hc
        refine x_bipush hC dX9_close_28 bp_m103 ?_
        exact x_iret hC hE dX9_close_30 ⟨_, _, rfl, rfl, hp⟩
  · have hp := hp.2 hc
    refine x_bipush hC dX9_close_8 bp_m101 ?_
    exact x_iret hC hE dX9_close_10 ⟨_, _, rfl, rfl, hp⟩
theorem dX9_feed_0 : decode cX9_feed 0 = .ok (.aload_n 0, 1) := by decide +kernel
theorem dX9_feed_1 : decode cX9_feed 1 = .ok (.iload_n 1, 1) := by decide +kernel
theorem dX9_feed_2 : decode cX9_feed 2 = .ok (.invokevirtual 171, 3) := by decide +kernel
theorem dX9_feed_5 : decode cX9_feed 5 = .ok (.ifCond .ne 6, 3) := by decide +kernel
theorem dX9_feed_8 : decode cX9_feed 8 = .ok (.bipush (-101), 2) := by decide +kernel
theorem dX9_feed_10 : decode cX9_feed 10 = .ok (.ireturn, 1) := by decide +kernel
theorem dX9_feed_11 : decode cX9_feed 11 = .ok (.iload_n 2, 1) := by decide +kernel
theorem dX9_feed_12 : decode cX9_feed 12 = .ok (.iconst 1, 1) := by decide +kernel
theorem dX9_feed_13 : decode cX9_feed 13 = .ok (.sipush 999, 3) := by decide +kernel
theorem dX9_feed_16 : decode cX9_feed 16 = .ok (.invokestatic 123, 3) := by decide +kernel
theorem dX9_feed_19 : decode cX9_feed 19 = .ok (.ifCond .eq 13, 3) := by decide +kernel
theorem dX9_feed_22 : decode cX9_feed 22 = .ok (.iload_n 3, 1) := by decide +kernel
theorem dX9_feed_23 : decode cX9_feed 23 = .ok (.iconst 1, 1) := by decide +kernel
theorem dX9_feed_24 : decode cX9_feed 24 = .ok (.bipush 20, 2) := by decide +kernel
theorem dX9_feed_26 : decode cX9_feed 26 = .ok (.invokestatic 123, 3) := by decide +kernel
theorem dX9_feed_29 : decode cX9_feed 29 = .ok (.ifCond .ne 6, 3) := by decide +kernel
theorem dX9_feed_32 : decode cX9_feed 32 = .ok (.bipush (-102), 2) := by decide +kernel
theorem dX9_feed_34 : decode cX9_feed 34 = .ok (.ireturn, 1) := by decide +kernel
theorem dX9_feed_35 : decode cX9_feed 35 = .ok (.aload_n 0, 1) := by decide +kernel
theorem dX9_feed_36 : decode cX9_feed 36 = .ok (.iload_n 1, 1) := by decide +kernel
theorem dX9_feed_37 : decode cX9_feed 37 = .ok (.invokevirtual 182, 3) := by decide +kernel
theorem dX9_feed_40 : decode cX9_feed 40 = .ok (.ifCond .ne 6, 3) := by decide +kernel
theorem dX9_feed_43 : decode cX9_feed 43 = .ok (.bipush (-103), 2) := by decide +kernel
theorem dX9_feed_45 : decode cX9_feed 45 = .ok (.ireturn, 1) := by decide +kernel
theorem dX9_feed_46 : decode cX9_feed 46 = .ok (.aload_n 0, 1) := by decide +kernel
theorem dX9_feed_47 : decode cX9_feed 47 = .ok (.getfield 50, 3) := by decide +kernel
theorem dX9_feed_50 : decode cX9_feed 50 = .ok (.iload_n 1, 1) := by decide +kernel
theorem dX9_feed_51 : decode cX9_feed 51 = .ok (.iaload, 1) := by decide +kernel
theorem dX9_feed_52 : decode cX9_feed 52 = .ok (.bipush 24, 2) := by decide +kernel
theorem dX9_feed_54 : decode cX9_feed 54 = .ok (.if_icmp .ne 6, 3) := by decide +kernel
theorem dX9_feed_57 : decode cX9_feed 57 = .ok (.bipush (-104), 2) := by decide +kernel
theorem dX9_feed_59 : decode cX9_feed 59 = .ok (.ireturn, 1) := by decide +kernel
theorem dX9_feed_60 : decode cX9_feed 60 = .ok (.aload_n 0, 1) := by decide +kernel
theorem dX9_feed_61 : decode cX9_feed 61 = .ok (.getfield 53, 3) := by decide +kernel
theorem dX9_feed_64 : decode cX9_feed 64 = .ok (.bipush 24, 2) := by decide +kernel
theorem dX9_feed_66 : decode cX9_feed 66 = .ok (.iload_n 1, 1) := by decide +kernel
theorem dX9_feed_67 : decode cX9_feed 67 = .ok (.imul, 1) := by decide +kernel
theorem dX9_feed_68 : decode cX9_feed 68 = .ok (.aload_n 0, 1) := by decide +kernel
theorem dX9_feed_69 : decode cX9_feed 69 = .ok (.getfield 50, 3) := by decide +kernel
theorem dX9_feed_72 : decode cX9_feed 72 = .ok (.iload_n 1, 1) := by decide +kernel
theorem dX9_feed_73 : decode cX9_feed 73 = .ok (.iaload, 1) := by decide +kernel
theorem dX9_feed_74 : decode cX9_feed 74 = .ok (.iadd, 1) := by decide +kernel
theorem dX9_feed_75 : decode cX9_feed 75 = .ok (.iload_n 2, 1) := by decide +kernel
theorem dX9_feed_76 : decode cX9_feed 76 = .ok (.iastore, 1) := by decide +kernel
theorem dX9_feed_77 : decode cX9_feed 77 = .ok (.aload_n 0, 1) := by decide +kernel
theorem dX9_feed_78 : decode cX9_feed 78 = .ok (.getfield 56, 3) := by decide +kernel
theorem dX9_feed_81 : decode cX9_feed 81 = .ok (.bipush 24, 2) := by decide +kernel
theorem dX9_feed_83 : decode cX9_feed 83 = .ok (.iload_n 1, 1) := by decide +kernel
theorem dX9_feed_84 : decode cX9_feed 84 = .ok (.imul, 1) := by decide +kernel
theorem dX9_feed_85 : decode cX9_feed 85 = .ok (.aload_n 0, 1) := by decide +kernel
theorem dX9_feed_86 : decode cX9_feed 86 = .ok (.getfield 50, 3) := by decide +kernel
theorem dX9_feed_89 : decode cX9_feed 89 = .ok (.iload_n 1, 1) := by decide +kernel
theorem dX9_feed_90 : decode cX9_feed 90 = .ok (.iaload, 1) := by decide +kernel
theorem dX9_feed_91 : decode cX9_feed 91 = .ok (.iadd, 1) := by decide +kernel
theorem dX9_feed_92 : decode cX9_feed 92 = .ok (.iload_n 3, 1) := by decide +kernel
theorem dX9_feed_93 : decode cX9_feed 93 = .ok (.iastore, 1) := by decide +kernel
theorem dX9_feed_94 : decode cX9_feed 94 = .ok (.aload_n 0, 1) := by decide +kernel
theorem dX9_feed_95 : decode cX9_feed 95 = .ok (.getfield 50, 3) := by decide +kernel
theorem dX9_feed_98 : decode cX9_feed 98 = .ok (.iload_n 1, 1) := by decide +kernel
theorem dX9_feed_99 : decode cX9_feed 99 = .ok (.dup2, 1) := by decide +kernel
theorem dX9_feed_100 : decode cX9_feed 100 = .ok (.iaload, 1) := by decide +kernel
theorem dX9_feed_101 : decode cX9_feed 101 = .ok (.iconst 1, 1) := by decide +kernel
theorem dX9_feed_102 : decode cX9_feed 102 = .ok (.iadd, 1) := by decide +kernel
theorem dX9_feed_103 : decode cX9_feed 103 = .ok (.iastore, 1) := by decide +kernel
theorem dX9_feed_104 : decode cX9_feed 104 = .ok (.aload_n 0, 1) := by decide +kernel
theorem dX9_feed_105 : decode cX9_feed 105 = .ok (.getfield 50, 3) := by decide +kernel
theorem dX9_feed_108 : decode cX9_feed 108 = .ok (.iload_n 1, 1) := by decide +kernel
theorem dX9_feed_109 : decode cX9_feed 109 = .ok (.iaload, 1) := by decide +kernel
theorem dX9_feed_110 : decode cX9_feed 110 = .ok (.ireturn, 1) := by decide +kernel
abbrev rm_X9_feed : Room := { frames := 2, cells := 0, slots := 0, locals := 43 }
def P_X9_feed (i1 : Int32) (i2 : Int32) (i3 : Int32) (h : HP) (Q : Int32 → HP → Prop) : Prop := P_X9_isClass i1 h (fun (v_2 : Int32) (h_2 : HP) => ((¬ v_2 = 0) → (P_X9_within i2 1 999 h_2 (fun (v_16 : Int32) (h_16 : HP) => ((v_16 = 0) → (Q (-102) h_16)) ∧ ((¬ v_16 = 0) → (P_X9_within i3 1 20 h_16 (fun (v_26 : Int32) (h_26 : HP) => ((¬ v_26 = 0) → (P_X9_isOpen i1 h_26 (fun (v_37 : Int32) (h_37 : HP) => ((¬ v_37 = 0) → ((vp_in i1 4) ∧ (((¬ (h_37.1 92 i1.toNatClampNeg) = 24) → ((vp_in i1 4) ∧ ((vp_in ((24 * i1) + (h_37.1 92 i1.toNatClampNeg)) 96) ∧ ((vp_in i1 4) ∧ ((vp_in ((24 * i1) + ((si h_37 93 ((24 * i1) + (h_37.1 92 i1.toNatClampNeg)).toNatClampNeg i2).1 92 i1.toNatClampNeg)) 96) ∧ ((vp_in i1 4) ∧ ((vp_in i1 4) ∧ ((vp_in i1 4) ∧ (Q ((si (si (si h_37 93 ((24 * i1) + (h_37.1 92 i1.toNatClampNeg)).toNatClampNeg i2) 94 ((24 * i1) + ((si h_37 93 ((24 * i1) + (h_37.1 92 i1.toNatClampNeg)).toNatClampNeg i2).1 92 i1.toNatClampNeg)).toNatClampNeg i3) 92 i1.toNatClampNeg (((si (si h_37 93 ((24 * i1) + (h_37.1 92 i1.toNatClampNeg)).toNatClampNeg i2) 94 ((24 * i1) + ((si h_37 93 ((24 * i1) + (h_37.1 92 i1.toNatClampNeg)).toNatClampNeg i2).1 92 i1.toNatClampNeg)).toNatClampNeg i3).1 92 i1.toNatClampNeg) + 1)).1 92 i1.toNatClampNeg) (si (si (si h_37 93 ((24 * i1) + (h_37.1 92 i1.toNatClampNeg)).toNatClampNeg i2) 94 ((24 * i1) + ((si h_37 93 ((24 * i1) + (h_37.1 92 i1.toNatClampNeg)).toNatClampNeg i2).1 92 i1.toNatClampNeg)).toNatClampNeg i3) 92 i1.toNatClampNeg (((si (si h_37 93 ((24 * i1) + (h_37.1 92 i1.toNatClampNeg)).toNatClampNeg i2) 94 ((24 * i1) + ((si h_37 93 ((24 * i1) + (h_37.1 92 i1.toNatClampNeg)).toNatClampNeg i2).1 92 i1.toNatClampNeg)).toNatClampNeg i3).1 92 i1.toNatClampNeg) + 1))))))))))) ∧ (((h_37.1 92 i1.toNatClampNeg) = 24) → (Q (-104) h_37))))) ∧ ((v_37 = 0) → (Q (-103) h_37))))) ∧ ((v_26 = 0) → (Q (-102) h_26)))))))) ∧ ((v_2 = 0) → (Q (-101) h_2)))
set_option maxHeartbeats 4000000 in
theorem t_X9_feed {i1 : Int32} {i2 : Int32} {i3 : Int32} {h : HP} {Q : Int32 → HP → Prop}  (hp : P_X9_feed i1 i2 i3 h Q) : MT yX9_feed cX9_feed 4 (some .int) rm_X9_feed [.ref 78, .int i1, .int i2, .int i3] gM SH (emb h) (pI Q) := by
  refine MT.of (by decide +kernel) (Nat.le_of_ble_eq_true rfl) (fun C hC hE => ?_)
  show SW C gM 0 [(0, .ref 78), (1, .int i1), (2, .int i2), (3, .int i3)] [] h
  unfold P_X9_feed at hp
  refine x_aload_n hC dX9_feed_0 (lm 0 rfl) ?_
  refine x_iload_n hC dX9_feed_1 (lm 1 rfl) ?_
  refine s_callVi (avs := [.int i1]) (st := []) hC dX9_feed_2 ml_9_171 mi_X9_isClass ty_78 rfl (t_X9_isClass  hp) (Nat.le_of_ble_eq_true rfl) ⟨rfl, rfl⟩ ⟨Nat.le_of_ble_eq_true rfl, Nat.le_of_ble_eq_true rfl⟩ (fun v_2 h_2 hp => ?_)
  refine x_if_ne (tgt := 11) hC dX9_feed_5 (by decide) (fun hc => ?_) (fun hc => ?_)
  · have hp := hp.1 hc
    refine x_iload_n hC dX9_feed_11 (lm 2 rfl) ?_
    refine x_iconst hC dX9_feed_12 ic_1 ?_
    refine x_sipush hC dX9_feed_13 sp_999 ?_
    refine s_callSi (avs := [.int i2, .int 1, .int 999]) (st := []) hC dX9_feed_16 ml_9_123 ms_X9_within rfl (t_X9_within  hp) (Nat.le_of_ble_eq_true rfl) ⟨rfl, rfl⟩ ⟨Nat.le_of_ble_eq_true rfl, Nat.le_of_ble_eq_true rfl⟩ (fun v_16 h_16 hp => ?_)
    refine x_if_eq (tgt := 32) hC dX9_feed_19 (by decide) (fun hc => ?_) (fun hc => ?_)
    · have hp := hp.1 hc
      refine x_bipush hC dX9_feed_32 bp_m102 ?_
      exact x_iret hC hE dX9_feed_34 ⟨_, _, rfl, rfl, hp⟩
    · have hp := hp.2 hc
      refine x_iload_n hC dX9_feed_22 (lm 3 rfl) ?_
      refine x_iconst hC dX9_feed_23 ic_1 ?_
      refine x_bipush hC dX9_feed_24 bp_20 ?_
      refine s_callSi (avs := [.int i3, .int 1, .int 20]) (st := []) hC dX9_feed_26 ml_9_123 ms_X9_within rfl (t_X9_within  hp) (Nat.le_of_ble_eq_true rfl) ⟨rfl, rfl⟩ ⟨Nat.le_of_ble_eq_true rfl, Nat.le_of_ble_eq_true rfl⟩ (fun v_26 h_26 hp => ?_)
      refine x_if_ne (tgt := 35) hC dX9_feed_29 (by decide) (fun hc => ?_) (fun hc => ?_)
      · have hp := hp.1 hc
        refine x_aload_n hC dX9_feed_35 (lm 0 rfl) ?_
        refine x_iload_n hC dX9_feed_36 (lm 1 rfl) ?_
        refine s_callVi (avs := [.int i1]) (st := []) hC dX9_feed_37 ml_9_182 mi_X9_isOpen ty_78 rfl (t_X9_isOpen  hp) (Nat.le_of_ble_eq_true rfl) ⟨rfl, rfl⟩ ⟨Nat.le_of_ble_eq_true rfl, Nat.le_of_ble_eq_true rfl⟩ (fun v_37 h_37 hp => ?_)
        refine x_if_ne (tgt := 46) hC dX9_feed_40 (by decide) (fun hc => ?_) (fun hc => ?_)
        · have hp := hp.1 hc
          refine x_aload_n hC dX9_feed_46 (lm 0 rfl) ?_
          refine s_getR (r := 92) hC dX9_feed_47 fk_9_50 ty_78 (fr_9_20 ty_78).1 ?_
          refine x_iload_n hC dX9_feed_50 (lm 1 rfl) ?_
          obtain ⟨ho, hp⟩ := hp
          refine s_iald hC dX9_feed_51 ((fr_9_20 ty_78).2) ho ?_
          refine x_bipush hC dX9_feed_52 bp_24 ?_
          refine x_icmp_ne (tgt := 60) hC dX9_feed_54 (by decide) (fun hc => ?_) (fun hc => ?_)
          · have hp := hp.1 hc
            refine x_aload_n hC dX9_feed_60 (lm 0 rfl) ?_
            refine s_getR (r := 93) hC dX9_feed_61 fk_9_53 ty_78 (fr_9_21 ty_78).1 ?_
            refine x_bipush hC dX9_feed_64 bp_24 ?_
            refine x_iload_n hC dX9_feed_66 (lm 1 rfl) ?_
            refine x_imul hC dX9_feed_67 ?_
            refine x_aload_n hC dX9_feed_68 (lm 0 rfl) ?_
            refine s_getR (r := 92) hC dX9_feed_69 fk_9_50 ty_78 (fr_9_20 ty_78).1 ?_
            refine x_iload_n hC dX9_feed_72 (lm 1 rfl) ?_
            obtain ⟨ho, hp⟩ := hp
            refine s_iald hC dX9_feed_73 ((fr_9_20 ty_78).2) ho ?_
            refine x_iadd hC dX9_feed_74 ?_
            refine x_iload_n hC dX9_feed_75 (lm 2 rfl) ?_
            obtain ⟨ho, hp⟩ := hp
            refine s_iast hC dX9_feed_76 ((fr_9_21 ty_78).2) ho ?_
            refine x_aload_n hC dX9_feed_77 (lm 0 rfl) ?_
            refine s_getR (r := 94) hC dX9_feed_78 fk_9_56 ty_78 (fr_9_22 ty_78).1 ?_
            refine x_bipush hC dX9_feed_81 bp_24 ?_
            refine x_iload_n hC dX9_feed_83 (lm 1 rfl) ?_
            refine x_imul hC dX9_feed_84 ?_
            refine x_aload_n hC dX9_feed_85 (lm 0 rfl) ?_
            refine s_getR (r := 92) hC dX9_feed_86 fk_9_50 ty_78 (fr_9_20 ty_78).1 ?_
            refine x_iload_n hC dX9_feed_89 (lm 1 rfl) ?_
            obtain ⟨ho, hp⟩ := hp
            refine s_iald hC dX9_feed_90 ((fr_9_20 ty_78).2) ho ?_
            refine x_iadd hC dX9_feed_91 ?_
            refine x_iload_n hC dX9_feed_92 (lm 3 rfl) ?_
            obtain ⟨ho, hp⟩ := hp
            refine s_iast hC dX9_feed_93 ((fr_9_22 ty_78).2) ho ?_
            refine x_aload_n hC dX9_feed_94 (lm 0 rfl) ?_
            refine s_getR (r := 92) hC dX9_feed_95 fk_9_50 ty_78 (fr_9_20 ty_78).1 ?_
            refine x_iload_n hC dX9_feed_98 (lm 1 rfl) ?_
            refine x_dup2 hC dX9_feed_99 rfl rfl ?_
            obtain ⟨ho, hp⟩ := hp
            refine s_iald hC dX9_feed_100 ((fr_9_20 ty_78).2) ho ?_
            refine x_iconst hC dX9_feed_101 ic_1 ?_
            refine x_iadd hC dX9_feed_102 ?_
            obtain ⟨ho, hp⟩ := hp
            refine s_iast hC dX9_feed_103 ((fr_9_20 ty_78).2) ho ?_
            refine x_aload_n hC dX9_feed_104 (lm 0 rfl) ?_
            refine s_getR (r := 92) hC dX9_feed_105 fk_9_50 ty_78 (fr_9_20 ty_78).1 ?_
            refine x_iload_n hC dX9_feed_108 (lm 1 rfl) ?_
            obtain ⟨ho, hp⟩ := hp
            refine s_iald hC dX9_feed_109 ((fr_9_20 ty_78).2) ho ?_
            exact x_iret hC hE dX9_feed_110 ⟨_, _, rfl, rfl, hp⟩
          · have hp := hp.2 hc
            refine x_bipush hC dX9_feed_57 bp_m104 ?_
            exact x_iret hC hE dX9_feed_59 ⟨_, _, rfl, rfl, hp⟩
        · have hp := hp.2 hc
          refine x_bipush hC dX9_feed_43 bp_m103 ?_
          exact x_iret hC hE dX9_feed_45 ⟨_, _, rfl, rfl, hp⟩
      · have hp := hp.2 hc
        refine x_bipush hC dX9_feed_32 bp_m102 ?_
        exact x_iret hC hE dX9_feed_34 ⟨_, _, rfl, rfl, hp⟩
  · have hp := hp.2 hc
    refine x_bipush hC dX9_feed_8 bp_m101 ?_
    exact x_iret hC hE dX9_feed_10 ⟨_, _, rfl, rfl, hp⟩
theorem dX9_tryOne_0 : decode cX9_tryOne 0 = .ok (.aload_n 0, 1) := by decide +kernel
theorem dX9_tryOne_1 : decode cX9_tryOne 1 = .ok (.getfield 189, 3) := by decide +kernel
theorem dX9_tryOne_4 : decode cX9_tryOne 4 = .ok (.aload_n 0, 1) := by decide +kernel
theorem dX9_tryOne_5 : decode cX9_tryOne 5 = .ok (.getfield 148, 3) := by decide +kernel
theorem dX9_tryOne_8 : decode cX9_tryOne 8 = .ok (.if_icmp .ge 44, 3) := by decide +kernel
theorem dX9_tryOne_11 : decode cX9_tryOne 11 = .ok (.aload_n 0, 1) := by decide +kernel
theorem dX9_tryOne_12 : decode cX9_tryOne 12 = .ok (.getfield 192, 3) := by decide +kernel
theorem dX9_tryOne_15 : decode cX9_tryOne 15 = .ok (.iload_n 3, 1) := by decide +kernel
theorem dX9_tryOne_16 : decode cX9_tryOne 16 = .ok (.iadd, 1) := by decide +kernel
theorem dX9_tryOne_17 : decode cX9_tryOne 17 = .ok (.aload_n 0, 1) := by decide +kernel
theorem dX9_tryOne_18 : decode cX9_tryOne 18 = .ok (.getfield 145, 3) := by decide +kernel
theorem dX9_tryOne_21 : decode cX9_tryOne 21 = .ok (.aload_n 0, 1) := by decide +kernel
theorem dX9_tryOne_22 : decode cX9_tryOne 22 = .ok (.invokevirtual 195, 3) := by decide +kernel
theorem dX9_tryOne_25 : decode cX9_tryOne 25 = .ok (.imul, 1) := by decide +kernel
theorem dX9_tryOne_26 : decode cX9_tryOne 26 = .ok (.if_icmp .gt 26, 3) := by decide +kernel
theorem dX9_tryOne_29 : decode cX9_tryOne 29 = .ok (.aload_n 0, 1) := by decide +kernel
theorem dX9_tryOne_30 : decode cX9_tryOne 30 = .ok (.getfield 31, 3) := by decide +kernel
theorem dX9_tryOne_33 : decode cX9_tryOne 33 = .ok (.iload_n 1, 1) := by decide +kernel
theorem dX9_tryOne_34 : decode cX9_tryOne 34 = .ok (.iaload, 1) := by decide +kernel
theorem dX9_tryOne_35 : decode cX9_tryOne 35 = .ok (.iload_n 2, 1) := by decide +kernel
theorem dX9_tryOne_36 : decode cX9_tryOne 36 = .ok (.invokestatic 119, 3) := by decide +kernel
theorem dX9_tryOne_39 : decode cX9_tryOne 39 = .ok (.aload_n 0, 1) := by decide +kernel
theorem dX9_tryOne_40 : decode cX9_tryOne 40 = .ok (.getfield 22, 3) := by decide +kernel
theorem dX9_tryOne_43 : decode cX9_tryOne 43 = .ok (.iload_n 1, 1) := by decide +kernel
theorem dX9_tryOne_44 : decode cX9_tryOne 44 = .ok (.iaload, 1) := by decide +kernel
theorem dX9_tryOne_45 : decode cX9_tryOne 45 = .ok (.if_icmp .ge 7, 3) := by decide +kernel
theorem dX9_tryOne_48 : decode cX9_tryOne 48 = .ok (.iconst 1, 1) := by decide +kernel
theorem dX9_tryOne_49 : decode cX9_tryOne 49 = .ok (.goto 4, 3) := by decide +kernel
theorem dX9_tryOne_52 : decode cX9_tryOne 52 = .ok (.iconst 0, 1) := by decide +kernel
theorem dX9_tryOne_53 : decode cX9_tryOne 53 = .ok (.istore 4, 2) := by decide +kernel
theorem dX9_tryOne_55 : decode cX9_tryOne 55 = .ok (.aload_n 0, 1) := by decide +kernel
theorem dX9_tryOne_56 : decode cX9_tryOne 56 = .ok (.getfield 198, 3) := by decide +kernel
theorem dX9_tryOne_59 : decode cX9_tryOne 59 = .ok (.ifCond .ne 8, 3) := by decide +kernel
theorem dX9_tryOne_62 : decode cX9_tryOne 62 = .ok (.iload 4, 2) := by decide +kernel
theorem dX9_tryOne_64 : decode cX9_tryOne 64 = .ok (.ifCond .ne 9, 3) := by decide +kernel
theorem dX9_tryOne_67 : decode cX9_tryOne 67 = .ok (.aload_n 0, 1) := by decide +kernel
theorem dX9_tryOne_68 : decode cX9_tryOne 68 = .ok (.iconst 1, 1) := by decide +kernel
theorem dX9_tryOne_69 : decode cX9_tryOne 69 = .ok (.putfield 198, 3) := by decide +kernel
theorem dX9_tryOne_72 : decode cX9_tryOne 72 = .ok (.return_, 1) := by decide +kernel
theorem dX9_tryOne_73 : decode cX9_tryOne 73 = .ok (.aload_n 0, 1) := by decide +kernel
theorem dX9_tryOne_74 : decode cX9_tryOne 74 = .ok (.dup, 1) := by decide +kernel
theorem dX9_tryOne_75 : decode cX9_tryOne 75 = .ok (.getfield 189, 3) := by decide +kernel
theorem dX9_tryOne_78 : decode cX9_tryOne 78 = .ok (.iconst 1, 1) := by decide +kernel
theorem dX9_tryOne_79 : decode cX9_tryOne 79 = .ok (.iadd, 1) := by decide +kernel
theorem dX9_tryOne_80 : decode cX9_tryOne 80 = .ok (.putfield 189, 3) := by decide +kernel
theorem dX9_tryOne_83 : decode cX9_tryOne 83 = .ok (.aload_n 0, 1) := by decide +kernel
theorem dX9_tryOne_84 : decode cX9_tryOne 84 = .ok (.dup, 1) := by decide +kernel
theorem dX9_tryOne_85 : decode cX9_tryOne 85 = .ok (.getfield 192, 3) := by decide +kernel
theorem dX9_tryOne_88 : decode cX9_tryOne 88 = .ok (.iload_n 3, 1) := by decide +kernel
theorem dX9_tryOne_89 : decode cX9_tryOne 89 = .ok (.iadd, 1) := by decide +kernel
theorem dX9_tryOne_90 : decode cX9_tryOne 90 = .ok (.putfield 192, 3) := by decide +kernel
theorem dX9_tryOne_93 : decode cX9_tryOne 93 = .ok (.return_, 1) := by decide +kernel
abbrev rm_X9_tryOne : Room := { frames := 2, cells := 0, slots := 0, locals := 41 }
def P_X9_tryOne_j55 (_q0 : Nat) (i3 : Int32) (i4 : Int32) (h : HP)  (Q : HP → Prop) : Prop := ((¬ (h.1 78 45) = 0) → (Q (si h 78 45 1))) ∧ (((h.1 78 45) = 0) → (((¬ i4 = 0) → (Q (si (si h 78 42 ((h.1 78 42) + 1)) 78 43 (((si h 78 42 ((h.1 78 42) + 1)).1 78 43) + i3)))) ∧ ((i4 = 0) → (Q (si h 78 45 1)))))
def P_X9_tryOne_j52 (_q0 : Nat) (i3 : Int32) (h : HP)  (Q : HP → Prop) : Prop := P_X9_tryOne_j55 78 i3 0 h Q
def P_X9_tryOne (i1 : Int32) (i2 : Int32) (i3 : Int32) (h : HP) (Q : HP → Prop) : Prop := (((h.1 78 3) ≤ (h.1 78 42)) → P_X9_tryOne_j52 78 i3 h Q) ∧ ((¬ (h.1 78 3) ≤ (h.1 78 42)) → (P_X9_left h (fun (v_22 : Int32) (h_22 : HP) => ((((h.1 78 2) * v_22) < ((h.1 78 43) + i3)) → P_X9_tryOne_j52 78 i3 h_22 Q) ∧ ((¬ ((h.1 78 2) * v_22) < ((h.1 78 43) + i3)) → ((vp_in i1 4) ∧ (P_X9_ahead (h_22.1 86 i1.toNatClampNeg) i2 h_22 (fun (v_36 : Int32) (h_36 : HP) => (vp_in i1 4) ∧ ((((h_36.1 83 i1.toNatClampNeg) ≤ v_36) → P_X9_tryOne_j52 78 i3 h_36 Q) ∧ ((¬ (h_36.1 83 i1.toNatClampNeg) ≤ v_36) → P_X9_tryOne_j55 78 i3 1 h_36 Q)))))))))
set_option maxHeartbeats 4000000 in
theorem l_X9_tryOne_j55 {i3 : Int32} {i4 : Int32} {h : HP}  {Q : HP → Prop} {C : Cx} (hC : xOk C cX9_tryOne yX9_tryOne.cls 5 rm_X9_tryOne none) (hE : xEnd C gM SH (pV Q))   (hp : P_X9_tryOne_j55 78 i3 i4 h  Q) : SW C gM 55 [(0, .ref 78), (3, .int i3), (4, .int i4)] [] h := by
  unfold P_X9_tryOne_j55 at hp
  refine x_aload_n hC dX9_tryOne_55 (lm 0 rfl) ?_
  refine s_getZ hC dX9_tryOne_56 fk_9_198 ty_78 ?_
  refine x_if_ne (tgt := 67) hC dX9_tryOne_59 (by decide) (fun hc => ?_) (fun hc => ?_)
  · have hp := hp.1 hc
    refine x_aload_n hC dX9_tryOne_67 (lm 0 rfl) ?_
    refine x_iconst hC dX9_tryOne_68 ic_1 ?_
    refine s_putZ hC dX9_tryOne_69 fk_9_198 rfl rfl (Or.inr rfl) ty_78 ?_
    exact x_vret hC hE dX9_tryOne_72 ⟨_, rfl, rfl, hp⟩
  · have hp := hp.2 hc
    refine x_iload hC dX9_tryOne_62 (lm 2 rfl) ?_
    refine x_if_ne (tgt := 73) hC dX9_tryOne_64 (by decide) (fun hc => ?_) (fun hc => ?_)
    · have hp := hp.1 hc
      refine x_aload_n hC dX9_tryOne_73 (lm 0 rfl) ?_
      refine x_dup hC dX9_tryOne_74 rfl ?_
      refine s_getI hC dX9_tryOne_75 fk_9_189 ty_78 ?_
      refine x_iconst hC dX9_tryOne_78 ic_1 ?_
      refine x_iadd hC dX9_tryOne_79 ?_
      refine s_putI hC dX9_tryOne_80 fk_9_189 rfl rfl ty_78 ?_
      refine x_aload_n hC dX9_tryOne_83 (lm 0 rfl) ?_
      refine x_dup hC dX9_tryOne_84 rfl ?_
      refine s_getI hC dX9_tryOne_85 fk_9_192 ty_78 ?_
      refine x_iload_n hC dX9_tryOne_88 (lm 1 rfl) ?_
      refine x_iadd hC dX9_tryOne_89 ?_
      refine s_putI hC dX9_tryOne_90 fk_9_192 rfl rfl ty_78 ?_
      exact x_vret hC hE dX9_tryOne_93 ⟨_, rfl, rfl, hp⟩
    · have hp := hp.2 hc
      refine x_aload_n hC dX9_tryOne_67 (lm 0 rfl) ?_
      refine x_iconst hC dX9_tryOne_68 ic_1 ?_
      refine s_putZ hC dX9_tryOne_69 fk_9_198 rfl rfl (Or.inr rfl) ty_78 ?_
      exact x_vret hC hE dX9_tryOne_72 ⟨_, rfl, rfl, hp⟩
set_option maxHeartbeats 4000000 in
theorem l_X9_tryOne_j52 {i3 : Int32} {h : HP}  {Q : HP → Prop} {C : Cx} (hC : xOk C cX9_tryOne yX9_tryOne.cls 5 rm_X9_tryOne none) (hE : xEnd C gM SH (pV Q))   (hp : P_X9_tryOne_j52 78 i3 h  Q) : SW C gM 52 [(0, .ref 78), (3, .int i3)] [] h := by
  unfold P_X9_tryOne_j52 at hp
  refine x_iconst hC dX9_tryOne_52 ic_0 ?_
  refine x_istore (lv' := [(4, .int 0), (0, .ref 78), (3, .int i3)]) hC dX9_tryOne_53 (by decide) rfl ?_
  exact x_subk [1, 2, 0] rfl (l_X9_tryOne_j55 hC hE   hp)
set_option maxHeartbeats 4000000 in
theorem t_X9_tryOne {i1 : Int32} {i2 : Int32} {i3 : Int32} {h : HP} {Q : HP → Prop}  (hp : P_X9_tryOne i1 i2 i3 h Q) : MT yX9_tryOne cX9_tryOne 5 none rm_X9_tryOne [.ref 78, .int i1, .int i2, .int i3] gM SH (emb h) (pV Q) := by
  refine MT.of (by decide +kernel) (Nat.le_of_ble_eq_true rfl) (fun C hC hE => ?_)
  show SW C gM 0 [(0, .ref 78), (1, .int i1), (2, .int i2), (3, .int i3)] [] h
  unfold P_X9_tryOne at hp
  refine x_aload_n hC dX9_tryOne_0 (lm 0 rfl) ?_
  refine s_getI hC dX9_tryOne_1 fk_9_189 ty_78 ?_
  refine x_aload_n hC dX9_tryOne_4 (lm 0 rfl) ?_
  refine s_getI hC dX9_tryOne_5 fk_9_148 ty_78 ?_
  refine x_icmp_ge (tgt := 52) hC dX9_tryOne_8 (by decide) (fun hc => ?_) (fun hc => ?_)
  · have hp := hp.1 hc
    exact x_subk [0, 3] rfl (l_X9_tryOne_j52 hC hE   hp)
  · have hp := hp.2 hc
    refine x_aload_n hC dX9_tryOne_11 (lm 0 rfl) ?_
    refine s_getI hC dX9_tryOne_12 fk_9_192 ty_78 ?_
    refine x_iload_n hC dX9_tryOne_15 (lm 3 rfl) ?_
    refine x_iadd hC dX9_tryOne_16 ?_
    refine x_aload_n hC dX9_tryOne_17 (lm 0 rfl) ?_
    refine s_getI hC dX9_tryOne_18 fk_9_145 ty_78 ?_
    refine x_aload_n hC dX9_tryOne_21 (lm 0 rfl) ?_
    refine s_callVi (avs := []) (st := [.int (h.1 78 2), .int ((h.1 78 43) + i3)]) hC dX9_tryOne_22 ml_9_195 mi_X9_left ty_78 rfl (t_X9_left  hp) (Nat.le_of_ble_eq_true rfl) ⟨rfl, rfl⟩ ⟨Nat.le_of_ble_eq_true rfl, Nat.le_of_ble_eq_true rfl⟩ (fun v_22 h_22 hp => ?_)
    refine x_imul hC dX9_tryOne_25 ?_
    refine x_icmp_gt (tgt := 52) hC dX9_tryOne_26 (by decide) (fun hc => ?_) (fun hc => ?_)
    · have hp := hp.1 hc
      exact x_subk [0, 3] rfl (l_X9_tryOne_j52 hC hE   hp)
    · have hp := hp.2 hc
      refine x_aload_n hC dX9_tryOne_29 (lm 0 rfl) ?_
      refine s_getR (r := 86) hC dX9_tryOne_30 fk_9_31 ty_78 (fr_9_14 ty_78).1 ?_
      refine x_iload_n hC dX9_tryOne_33 (lm 1 rfl) ?_
      obtain ⟨ho, hp⟩ := hp
      refine s_iald hC dX9_tryOne_34 ((fr_9_14 ty_78).2) ho ?_
      refine x_iload_n hC dX9_tryOne_35 (lm 2 rfl) ?_
      refine s_callSi (avs := [.int (h_22.1 86 i1.toNatClampNeg), .int i2]) (st := []) hC dX9_tryOne_36 ml_9_119 ms_X9_ahead rfl (t_X9_ahead  hp) (Nat.le_of_ble_eq_true rfl) ⟨rfl, rfl⟩ ⟨Nat.le_of_ble_eq_true rfl, Nat.le_of_ble_eq_true rfl⟩ (fun v_36 h_36 hp => ?_)
      refine x_aload_n hC dX9_tryOne_39 (lm 0 rfl) ?_
      refine s_getR (r := 83) hC dX9_tryOne_40 fk_9_22 ty_78 (fr_9_11 ty_78).1 ?_
      refine x_iload_n hC dX9_tryOne_43 (lm 1 rfl) ?_
      obtain ⟨ho, hp⟩ := hp
      refine s_iald hC dX9_tryOne_44 ((fr_9_11 ty_78).2) ho ?_
      refine x_icmp_ge (tgt := 52) hC dX9_tryOne_45 (by decide) (fun hc => ?_) (fun hc => ?_)
      · have hp := hp.1 hc
        exact x_subk [0, 3] rfl (l_X9_tryOne_j52 hC hE   hp)
      · have hp := hp.2 hc
        refine x_iconst hC dX9_tryOne_48 ic_1 ?_
        refine x_goto (tgt := 53) hC dX9_tryOne_49 (by decide) ?_
        refine x_istore (lv' := [(4, .int 1), (0, .ref 78), (1, .int i1), (2, .int i2), (3, .int i3)]) hC dX9_tryOne_53 (by decide) rfl ?_
        exact x_subk [1, 4, 0] rfl (l_X9_tryOne_j55 hC hE   hp)
theorem dX9_plan_0 : decode cX9_plan 0 = .ok (.aload_n 0, 1) := by decide +kernel
theorem dX9_plan_1 : decode cX9_plan 1 = .ok (.iconst 0, 1) := by decide +kernel
theorem dX9_plan_2 : decode cX9_plan 2 = .ok (.putfield 189, 3) := by decide +kernel
theorem dX9_plan_5 : decode cX9_plan 5 = .ok (.aload_n 0, 1) := by decide +kernel
theorem dX9_plan_6 : decode cX9_plan 6 = .ok (.iconst 0, 1) := by decide +kernel
theorem dX9_plan_7 : decode cX9_plan 7 = .ok (.putfield 192, 3) := by decide +kernel
theorem dX9_plan_10 : decode cX9_plan 10 = .ok (.aload_n 0, 1) := by decide +kernel
theorem dX9_plan_11 : decode cX9_plan 11 = .ok (.iconst 0, 1) := by decide +kernel
theorem dX9_plan_12 : decode cX9_plan 12 = .ok (.putfield 202, 3) := by decide +kernel
theorem dX9_plan_15 : decode cX9_plan 15 = .ok (.aload_n 0, 1) := by decide +kernel
theorem dX9_plan_16 : decode cX9_plan 16 = .ok (.iconst 0, 1) := by decide +kernel
theorem dX9_plan_17 : decode cX9_plan 17 = .ok (.putfield 198, 3) := by decide +kernel
theorem dX9_plan_20 : decode cX9_plan 20 = .ok (.iconst 0, 1) := by decide +kernel
theorem dX9_plan_21 : decode cX9_plan 21 = .ok (.istore_n 2, 1) := by decide +kernel
theorem dX9_plan_22 : decode cX9_plan 22 = .ok (.iload_n 2, 1) := by decide +kernel
theorem dX9_plan_23 : decode cX9_plan 23 = .ok (.aload_n 0, 1) := by decide +kernel
theorem dX9_plan_24 : decode cX9_plan 24 = .ok (.getfield 31, 3) := by decide +kernel
theorem dX9_plan_27 : decode cX9_plan 27 = .ok (.iload_n 1, 1) := by decide +kernel
theorem dX9_plan_28 : decode cX9_plan 28 = .ok (.iaload, 1) := by decide +kernel
theorem dX9_plan_29 : decode cX9_plan 29 = .ok (.aload_n 0, 1) := by decide +kernel
theorem dX9_plan_30 : decode cX9_plan 30 = .ok (.getfield 34, 3) := by decide +kernel
theorem dX9_plan_33 : decode cX9_plan 33 = .ok (.iload_n 1, 1) := by decide +kernel
theorem dX9_plan_34 : decode cX9_plan 34 = .ok (.iaload, 1) := by decide +kernel
theorem dX9_plan_35 : decode cX9_plan 35 = .ok (.invokestatic 119, 3) := by decide +kernel
theorem dX9_plan_38 : decode cX9_plan 38 = .ok (.if_icmp .ge 52, 3) := by decide +kernel
theorem dX9_plan_41 : decode cX9_plan 41 = .ok (.aload_n 0, 1) := by decide +kernel
theorem dX9_plan_42 : decode cX9_plan 42 = .ok (.getfield 31, 3) := by decide +kernel
theorem dX9_plan_45 : decode cX9_plan 45 = .ok (.iload_n 1, 1) := by decide +kernel
theorem dX9_plan_46 : decode cX9_plan 46 = .ok (.iaload, 1) := by decide +kernel
theorem dX9_plan_47 : decode cX9_plan 47 = .ok (.iload_n 2, 1) := by decide +kernel
theorem dX9_plan_48 : decode cX9_plan 48 = .ok (.iadd, 1) := by decide +kernel
theorem dX9_plan_49 : decode cX9_plan 49 = .ok (.bipush 64, 2) := by decide +kernel
theorem dX9_plan_51 : decode cX9_plan 51 = .ok (.irem, 1) := by decide +kernel
theorem dX9_plan_52 : decode cX9_plan 52 = .ok (.istore_n 3, 1) := by decide +kernel
theorem dX9_plan_53 : decode cX9_plan 53 = .ok (.aload_n 0, 1) := by decide +kernel
theorem dX9_plan_54 : decode cX9_plan 54 = .ok (.getfield 68, 3) := by decide +kernel
theorem dX9_plan_57 : decode cX9_plan 57 = .ok (.bipush 64, 2) := by decide +kernel
theorem dX9_plan_59 : decode cX9_plan 59 = .ok (.iload_n 1, 1) := by decide +kernel
theorem dX9_plan_60 : decode cX9_plan 60 = .ok (.imul, 1) := by decide +kernel
theorem dX9_plan_61 : decode cX9_plan 61 = .ok (.iload_n 3, 1) := by decide +kernel
theorem dX9_plan_62 : decode cX9_plan 62 = .ok (.iadd, 1) := by decide +kernel
theorem dX9_plan_63 : decode cX9_plan 63 = .ok (.baload, 1) := by decide +kernel
theorem dX9_plan_64 : decode cX9_plan 64 = .ok (.ifCond .ne 20, 3) := by decide +kernel
theorem dX9_plan_67 : decode cX9_plan 67 = .ok (.aload_n 0, 1) := by decide +kernel
theorem dX9_plan_68 : decode cX9_plan 68 = .ok (.iload_n 1, 1) := by decide +kernel
theorem dX9_plan_69 : decode cX9_plan 69 = .ok (.iload_n 3, 1) := by decide +kernel
theorem dX9_plan_70 : decode cX9_plan 70 = .ok (.aload_n 0, 1) := by decide +kernel
theorem dX9_plan_71 : decode cX9_plan 71 = .ok (.getfield 62, 3) := by decide +kernel
theorem dX9_plan_74 : decode cX9_plan 74 = .ok (.bipush 64, 2) := by decide +kernel
theorem dX9_plan_76 : decode cX9_plan 76 = .ok (.iload_n 1, 1) := by decide +kernel
theorem dX9_plan_77 : decode cX9_plan 77 = .ok (.imul, 1) := by decide +kernel
theorem dX9_plan_78 : decode cX9_plan 78 = .ok (.iload_n 3, 1) := by decide +kernel
theorem dX9_plan_79 : decode cX9_plan 79 = .ok (.iadd, 1) := by decide +kernel
theorem dX9_plan_80 : decode cX9_plan 80 = .ok (.iaload, 1) := by decide +kernel
theorem dX9_plan_81 : decode cX9_plan 81 = .ok (.invokevirtual 205, 3) := by decide +kernel
theorem dX9_plan_84 : decode cX9_plan 84 = .ok (.iinc 2 1, 3) := by decide +kernel
theorem dX9_plan_87 : decode cX9_plan 87 = .ok (.goto (-65), 3) := by decide +kernel
theorem dX9_plan_90 : decode cX9_plan 90 = .ok (.iconst 0, 1) := by decide +kernel
theorem dX9_plan_91 : decode cX9_plan 91 = .ok (.istore_n 2, 1) := by decide +kernel
theorem dX9_plan_92 : decode cX9_plan 92 = .ok (.iload_n 2, 1) := by decide +kernel
theorem dX9_plan_93 : decode cX9_plan 93 = .ok (.aload_n 0, 1) := by decide +kernel
theorem dX9_plan_94 : decode cX9_plan 94 = .ok (.getfield 50, 3) := by decide +kernel
theorem dX9_plan_97 : decode cX9_plan 97 = .ok (.iload_n 1, 1) := by decide +kernel
theorem dX9_plan_98 : decode cX9_plan 98 = .ok (.iaload, 1) := by decide +kernel
theorem dX9_plan_99 : decode cX9_plan 99 = .ok (.if_icmp .ge 57, 3) := by decide +kernel
theorem dX9_plan_102 : decode cX9_plan 102 = .ok (.aload_n 0, 1) := by decide +kernel
theorem dX9_plan_103 : decode cX9_plan 103 = .ok (.iload_n 1, 1) := by decide +kernel
theorem dX9_plan_104 : decode cX9_plan 104 = .ok (.aload_n 0, 1) := by decide +kernel
theorem dX9_plan_105 : decode cX9_plan 105 = .ok (.getfield 34, 3) := by decide +kernel
theorem dX9_plan_108 : decode cX9_plan 108 = .ok (.iload_n 1, 1) := by decide +kernel
theorem dX9_plan_109 : decode cX9_plan 109 = .ok (.iaload, 1) := by decide +kernel
theorem dX9_plan_110 : decode cX9_plan 110 = .ok (.iload_n 2, 1) := by decide +kernel
theorem dX9_plan_111 : decode cX9_plan 111 = .ok (.iadd, 1) := by decide +kernel
theorem dX9_plan_112 : decode cX9_plan 112 = .ok (.bipush 64, 2) := by decide +kernel
theorem dX9_plan_114 : decode cX9_plan 114 = .ok (.irem, 1) := by decide +kernel
theorem dX9_plan_115 : decode cX9_plan 115 = .ok (.aload_n 0, 1) := by decide +kernel
theorem dX9_plan_116 : decode cX9_plan 116 = .ok (.getfield 56, 3) := by decide +kernel
theorem dX9_plan_119 : decode cX9_plan 119 = .ok (.bipush 24, 2) := by decide +kernel
theorem dX9_plan_121 : decode cX9_plan 121 = .ok (.iload_n 1, 1) := by decide +kernel
theorem dX9_plan_122 : decode cX9_plan 122 = .ok (.imul, 1) := by decide +kernel
theorem dX9_plan_123 : decode cX9_plan 123 = .ok (.iload_n 2, 1) := by decide +kernel
theorem dX9_plan_124 : decode cX9_plan 124 = .ok (.iadd, 1) := by decide +kernel
theorem dX9_plan_125 : decode cX9_plan 125 = .ok (.iaload, 1) := by decide +kernel
theorem dX9_plan_126 : decode cX9_plan 126 = .ok (.invokevirtual 205, 3) := by decide +kernel
theorem dX9_plan_129 : decode cX9_plan 129 = .ok (.aload_n 0, 1) := by decide +kernel
theorem dX9_plan_130 : decode cX9_plan 130 = .ok (.dup, 1) := by decide +kernel
theorem dX9_plan_131 : decode cX9_plan 131 = .ok (.getfield 202, 3) := by decide +kernel
theorem dX9_plan_134 : decode cX9_plan 134 = .ok (.aload_n 0, 1) := by decide +kernel
theorem dX9_plan_135 : decode cX9_plan 135 = .ok (.getfield 198, 3) := by decide +kernel
theorem dX9_plan_138 : decode cX9_plan 138 = .ok (.ifCond .eq 7, 3) := by decide +kernel
theorem dX9_plan_141 : decode cX9_plan 141 = .ok (.iconst 0, 1) := by decide +kernel
theorem dX9_plan_142 : decode cX9_plan 142 = .ok (.goto 4, 3) := by decide +kernel
theorem dX9_plan_145 : decode cX9_plan 145 = .ok (.iconst 1, 1) := by decide +kernel
theorem dX9_plan_146 : decode cX9_plan 146 = .ok (.iadd, 1) := by decide +kernel
theorem dX9_plan_147 : decode cX9_plan 147 = .ok (.putfield 202, 3) := by decide +kernel
theorem dX9_plan_150 : decode cX9_plan 150 = .ok (.iinc 2 1, 3) := by decide +kernel
theorem dX9_plan_153 : decode cX9_plan 153 = .ok (.goto (-61), 3) := by decide +kernel
theorem dX9_plan_156 : decode cX9_plan 156 = .ok (.return_, 1) := by decide +kernel
abbrev rm_X9_plan : Room := { frames := 3, cells := 0, slots := 0, locals := 65 }
def P_X9_plan (i1 : Int32) (h : HP) (Q : HP → Prop) : Prop := Lp2 (fun X_22 (i2_22 : Int32) (h_22 : HP) => (vp_in i1 4) ∧ ((vp_in i1 4) ∧ (P_X9_ahead (h_22.1 86 i1.toNatClampNeg) (h_22.1 87 i1.toNatClampNeg) h_22 (fun (v_35 : Int32) (h_35 : HP) => ((v_35 ≤ i2_22) → (Lp2 (fun X_92 (i2_92 : Int32) (h_92 : HP) => (vp_in i1 4) ∧ ((((h_92.1 92 i1.toNatClampNeg) ≤ i2_92) → Q h_92) ∧ ((¬ (h_92.1 92 i1.toNatClampNeg) ≤ i2_92) → ((vp_in i1 4) ∧ ((vp_in ((24 * i1) + i2_92) 96) ∧ (P_X9_tryOne i1 (((h_92.1 87 i1.toNatClampNeg) + i2_92) - ((h_92.1 87 i1.toNatClampNeg) + i2_92) / 64 * 64) (h_92.1 94 ((24 * i1) + i2_92).toNatClampNeg) h_92 (fun (h_126 : HP) => (((h_126.1 78 45) = 0) → (X_92 (i2_92 + 1) (si h_126 78 44 ((h_126.1 78 44) + 1)))) ∧ ((¬ (h_126.1 78 45) = 0) → (X_92 (i2_92 + 1) (si h_126 78 44 ((h_126.1 78 44) + 0))))))))))) 0 h_35)) ∧ ((¬ v_35 ≤ i2_22) → ((vp_in i1 4) ∧ ((vp_in ((64 * i1) + (((h_35.1 86 i1.toNatClampNeg) + i2_22) - ((h_35.1 86 i1.toNatClampNeg) + i2_22) / 64 * 64)) 256) ∧ (((¬ (h_35.1 98 ((64 * i1) + (((h_35.1 86 i1.toNatClampNeg) + i2_22) - ((h_35.1 86 i1.toNatClampNeg) + i2_22) / 64 * 64)).toNatClampNeg) = 0) → (X_22 (i2_22 + 1) h_35)) ∧ (((h_35.1 98 ((64 * i1) + (((h_35.1 86 i1.toNatClampNeg) + i2_22) - ((h_35.1 86 i1.toNatClampNeg) + i2_22) / 64 * 64)).toNatClampNeg) = 0) → ((vp_in ((64 * i1) + (((h_35.1 86 i1.toNatClampNeg) + i2_22) - ((h_35.1 86 i1.toNatClampNeg) + i2_22) / 64 * 64)) 256) ∧ (P_X9_tryOne i1 (((h_35.1 86 i1.toNatClampNeg) + i2_22) - ((h_35.1 86 i1.toNatClampNeg) + i2_22) / 64 * 64) (h_35.1 96 ((64 * i1) + (((h_35.1 86 i1.toNatClampNeg) + i2_22) - ((h_35.1 86 i1.toNatClampNeg) + i2_22) / 64 * 64)).toNatClampNeg) h_35 (fun (h_81 : HP) => X_22 (i2_22 + 1) h_81)))))))))))) 0 (si (si (si (si h 78 42 0) 78 43 0) 78 44 0) 78 45 0)
set_option maxHeartbeats 4000000 in
theorem t_X9_plan {i1 : Int32} {h : HP} {Q : HP → Prop}  (hp : P_X9_plan i1 h Q) : MT yX9_plan cX9_plan 4 none rm_X9_plan [.ref 78, .int i1] gM SH (emb h) (pV Q) := by
  refine MT.of (by decide +kernel) (Nat.le_of_ble_eq_true rfl) (fun C hC hE => ?_)
  show SW C gM 0 [(0, .ref 78), (1, .int i1)] [] h
  unfold P_X9_plan at hp
  refine x_aload_n hC dX9_plan_0 (lm 0 rfl) ?_
  refine x_iconst hC dX9_plan_1 ic_0 ?_
  refine s_putI hC dX9_plan_2 fk_9_189 rfl rfl ty_78 ?_
  refine x_aload_n hC dX9_plan_5 (lm 0 rfl) ?_
  refine x_iconst hC dX9_plan_6 ic_0 ?_
  refine s_putI hC dX9_plan_7 fk_9_192 rfl rfl ty_78 ?_
  refine x_aload_n hC dX9_plan_10 (lm 0 rfl) ?_
  refine x_iconst hC dX9_plan_11 ic_0 ?_
  refine s_putI hC dX9_plan_12 fk_9_202 rfl rfl ty_78 ?_
  refine x_aload_n hC dX9_plan_15 (lm 0 rfl) ?_
  refine x_iconst hC dX9_plan_16 ic_0 ?_
  refine s_putZ hC dX9_plan_17 fk_9_198 rfl rfl (Or.inl rfl) ty_78 ?_
  refine x_iconst hC dX9_plan_20 ic_0 ?_
  refine x_istore_n (lv' := [(2, .int 0), (0, .ref 78), (1, .int i1)]) hC dX9_plan_21 (by decide) rfl ?_
  refine x_subk (lv' := [(0, .ref 78), (1, .int i1), (2, .int 0)]) [1, 2, 0] rfl ?_
  refine hp (fun i2_22 h_22 => SW C gM 22 [(0, .ref 78), (1, .int i1), (2, .int i2_22)] [] h_22) (fun i2_22 h_22 hp => ?_)
  refine x_iload_n hC dX9_plan_22 (lm 2 rfl) ?_
  refine x_aload_n hC dX9_plan_23 (lm 0 rfl) ?_
  refine s_getR (r := 86) hC dX9_plan_24 fk_9_31 ty_78 (fr_9_14 ty_78).1 ?_
  refine x_iload_n hC dX9_plan_27 (lm 1 rfl) ?_
  obtain ⟨ho, hp⟩ := hp
  refine s_iald hC dX9_plan_28 ((fr_9_14 ty_78).2) ho ?_
  refine x_aload_n hC dX9_plan_29 (lm 0 rfl) ?_
  refine s_getR (r := 87) hC dX9_plan_30 fk_9_34 ty_78 (fr_9_15 ty_78).1 ?_
  refine x_iload_n hC dX9_plan_33 (lm 1 rfl) ?_
  obtain ⟨ho, hp⟩ := hp
  refine s_iald hC dX9_plan_34 ((fr_9_15 ty_78).2) ho ?_
  refine s_callSi (avs := [.int (h_22.1 86 i1.toNatClampNeg), .int (h_22.1 87 i1.toNatClampNeg)]) (st := [.int i2_22]) hC dX9_plan_35 ml_9_119 ms_X9_ahead rfl (t_X9_ahead  hp) (Nat.le_of_ble_eq_true rfl) ⟨rfl, rfl⟩ ⟨Nat.le_of_ble_eq_true rfl, Nat.le_of_ble_eq_true rfl⟩ (fun v_35 h_35 hp => ?_)
  refine x_icmp_ge (tgt := 90) hC dX9_plan_38 (by decide) (fun hc => ?_) (fun hc => ?_)
  · have hp := hp.1 hc
    refine x_iconst hC dX9_plan_90 ic_0 ?_
    refine x_istore_n (lv' := [(2, .int 0), (0, .ref 78), (1, .int i1)]) hC dX9_plan_91 (by decide) rfl ?_
    refine x_subk (lv' := [(0, .ref 78), (1, .int i1), (2, .int 0)]) [1, 2, 0] rfl ?_
    refine hp (fun i2_92 h_92 => SW C gM 92 [(0, .ref 78), (1, .int i1), (2, .int i2_92)] [] h_92) (fun i2_92 h_92 hp => ?_)
    refine x_iload_n hC dX9_plan_92 (lm 2 rfl) ?_
    refine x_aload_n hC dX9_plan_93 (lm 0 rfl) ?_
    refine s_getR (r := 92) hC dX9_plan_94 fk_9_50 ty_78 (fr_9_20 ty_78).1 ?_
    refine x_iload_n hC dX9_plan_97 (lm 1 rfl) ?_
    obtain ⟨ho, hp⟩ := hp
    refine s_iald hC dX9_plan_98 ((fr_9_20 ty_78).2) ho ?_
    refine x_icmp_ge (tgt := 156) hC dX9_plan_99 (by decide) (fun hc => ?_) (fun hc => ?_)
    · have hp := hp.1 hc
      exact x_vret hC hE dX9_plan_156 ⟨_, rfl, rfl, hp⟩
    · have hp := hp.2 hc
      refine x_aload_n hC dX9_plan_102 (lm 0 rfl) ?_
      refine x_iload_n hC dX9_plan_103 (lm 1 rfl) ?_
      refine x_aload_n hC dX9_plan_104 (lm 0 rfl) ?_
      refine s_getR (r := 87) hC dX9_plan_105 fk_9_34 ty_78 (fr_9_15 ty_78).1 ?_
      refine x_iload_n hC dX9_plan_108 (lm 1 rfl) ?_
      obtain ⟨ho, hp⟩ := hp
      refine s_iald hC dX9_plan_109 ((fr_9_15 ty_78).2) ho ?_
      refine x_iload_n hC dX9_plan_110 (lm 2 rfl) ?_
      refine x_iadd hC dX9_plan_111 ?_
      refine x_bipush hC dX9_plan_112 bp_64 ?_
      refine x_irem hC dX9_plan_114 (by decide) ?_
      refine x_aload_n hC dX9_plan_115 (lm 0 rfl) ?_
      refine s_getR (r := 94) hC dX9_plan_116 fk_9_56 ty_78 (fr_9_22 ty_78).1 ?_
      refine x_bipush hC dX9_plan_119 bp_24 ?_
      refine x_iload_n hC dX9_plan_121 (lm 1 rfl) ?_
      refine x_imul hC dX9_plan_122 ?_
      refine x_iload_n hC dX9_plan_123 (lm 2 rfl) ?_
      refine x_iadd hC dX9_plan_124 ?_
      obtain ⟨ho, hp⟩ := hp
      refine s_iald hC dX9_plan_125 ((fr_9_22 ty_78).2) ho ?_
      refine s_callVv (avs := [.int i1, .int (((h_92.1 87 i1.toNatClampNeg) + i2_92) - ((h_92.1 87 i1.toNatClampNeg) + i2_92) / 64 * 64), .int (h_92.1 94 ((24 * i1) + i2_92).toNatClampNeg)]) (st := []) hC dX9_plan_126 ml_9_205 mi_X9_tryOne ty_78 rfl (t_X9_tryOne  hp) (Nat.le_of_ble_eq_true rfl) ⟨rfl, rfl⟩ ⟨Nat.le_of_ble_eq_true rfl, Nat.le_of_ble_eq_true rfl⟩ (fun h_126 hp => ?_)
      refine x_aload_n hC dX9_plan_129 (lm 0 rfl) ?_
      refine x_dup hC dX9_plan_130 rfl ?_
      refine s_getI hC dX9_plan_131 fk_9_202 ty_78 ?_
      refine x_aload_n hC dX9_plan_134 (lm 0 rfl) ?_
      refine s_getZ hC dX9_plan_135 fk_9_198 ty_78 ?_
      refine x_if_eq (tgt := 145) hC dX9_plan_138 (by decide) (fun hc => ?_) (fun hc => ?_)
      · have hp := hp.1 hc
        refine x_iconst hC dX9_plan_145 ic_1 ?_
        refine x_iadd hC dX9_plan_146 ?_
        refine s_putI hC dX9_plan_147 fk_9_202 rfl rfl ty_78 ?_
        refine x_iinc (u := i2_92 + 1) (lv' := [(2, .int (i2_92 + 1)), (0, .ref 78), (1, .int i1)]) hC dX9_plan_150 (lm 2 rfl) (congrArg _ ic_1) (by decide) rfl ?_
        refine x_goto (tgt := 92) hC dX9_plan_153 (by decide) ?_
        exact x_subk [1, 2, 0] rfl hp
      · have hp := hp.2 hc
        refine x_iconst hC dX9_plan_141 ic_0 ?_
        refine x_goto (tgt := 146) hC dX9_plan_142 (by decide) ?_
        refine x_iadd hC dX9_plan_146 ?_
        refine s_putI hC dX9_plan_147 fk_9_202 rfl rfl ty_78 ?_
        refine x_iinc (u := i2_92 + 1) (lv' := [(2, .int (i2_92 + 1)), (0, .ref 78), (1, .int i1)]) hC dX9_plan_150 (lm 2 rfl) (congrArg _ ic_1) (by decide) rfl ?_
        refine x_goto (tgt := 92) hC dX9_plan_153 (by decide) ?_
        exact x_subk [1, 2, 0] rfl hp
  · have hp := hp.2 hc
    refine x_aload_n hC dX9_plan_41 (lm 0 rfl) ?_
    refine s_getR (r := 86) hC dX9_plan_42 fk_9_31 ty_78 (fr_9_14 ty_78).1 ?_
    refine x_iload_n hC dX9_plan_45 (lm 1 rfl) ?_
    obtain ⟨ho, hp⟩ := hp
    refine s_iald hC dX9_plan_46 ((fr_9_14 ty_78).2) ho ?_
    refine x_iload_n hC dX9_plan_47 (lm 2 rfl) ?_
    refine x_iadd hC dX9_plan_48 ?_
    refine x_bipush hC dX9_plan_49 bp_64 ?_
    refine x_irem hC dX9_plan_51 (by decide) ?_
    refine x_istore_n (lv' := [(3, .int (((h_35.1 86 i1.toNatClampNeg) + i2_22) - ((h_35.1 86 i1.toNatClampNeg) + i2_22) / 64 * 64)), (0, .ref 78), (1, .int i1), (2, .int i2_22)]) hC dX9_plan_52 (by decide) rfl ?_
    refine x_aload_n hC dX9_plan_53 (lm 1 rfl) ?_
    refine s_getR (r := 98) hC dX9_plan_54 fk_9_68 ty_78 (fr_9_26 ty_78).1 ?_
    refine x_bipush hC dX9_plan_57 bp_64 ?_
    refine x_iload_n hC dX9_plan_59 (lm 2 rfl) ?_
    refine x_imul hC dX9_plan_60 ?_
    refine x_iload_n hC dX9_plan_61 (lm 0 rfl) ?_
    refine x_iadd hC dX9_plan_62 ?_
    obtain ⟨ho, hp⟩ := hp
    refine s_zald hC dX9_plan_63 ((fr_9_26 ty_78).2) ho ?_
    refine x_if_ne (tgt := 84) hC dX9_plan_64 (by decide) (fun hc => ?_) (fun hc => ?_)
    · have hp := hp.1 hc
      refine x_iinc (u := i2_22 + 1) (lv' := [(2, .int (i2_22 + 1)), (3, .int (((h_35.1 86 i1.toNatClampNeg) + i2_22) - ((h_35.1 86 i1.toNatClampNeg) + i2_22) / 64 * 64)), (0, .ref 78), (1, .int i1)]) hC dX9_plan_84 (lm 3 rfl) (congrArg _ ic_1) (by decide) rfl ?_
      refine x_goto (tgt := 22) hC dX9_plan_87 (by decide) ?_
      exact x_subk [2, 3, 0] rfl hp
    · have hp := hp.2 hc
      refine x_aload_n hC dX9_plan_67 (lm 1 rfl) ?_
      refine x_iload_n hC dX9_plan_68 (lm 2 rfl) ?_
      refine x_iload_n hC dX9_plan_69 (lm 0 rfl) ?_
      refine x_aload_n hC dX9_plan_70 (lm 1 rfl) ?_
      refine s_getR (r := 96) hC dX9_plan_71 fk_9_62 ty_78 (fr_9_24 ty_78).1 ?_
      refine x_bipush hC dX9_plan_74 bp_64 ?_
      refine x_iload_n hC dX9_plan_76 (lm 2 rfl) ?_
      refine x_imul hC dX9_plan_77 ?_
      refine x_iload_n hC dX9_plan_78 (lm 0 rfl) ?_
      refine x_iadd hC dX9_plan_79 ?_
      obtain ⟨ho, hp⟩ := hp
      refine s_iald hC dX9_plan_80 ((fr_9_24 ty_78).2) ho ?_
      refine s_callVv (avs := [.int i1, .int (((h_35.1 86 i1.toNatClampNeg) + i2_22) - ((h_35.1 86 i1.toNatClampNeg) + i2_22) / 64 * 64), .int (h_35.1 96 ((64 * i1) + (((h_35.1 86 i1.toNatClampNeg) + i2_22) - ((h_35.1 86 i1.toNatClampNeg) + i2_22) / 64 * 64)).toNatClampNeg)]) (st := []) hC dX9_plan_81 ml_9_205 mi_X9_tryOne ty_78 rfl (t_X9_tryOne  hp) (Nat.le_of_ble_eq_true rfl) ⟨rfl, rfl⟩ ⟨Nat.le_of_ble_eq_true rfl, Nat.le_of_ble_eq_true rfl⟩ (fun h_81 hp => ?_)
      refine x_iinc (u := i2_22 + 1) (lv' := [(2, .int (i2_22 + 1)), (3, .int (((h_35.1 86 i1.toNatClampNeg) + i2_22) - ((h_35.1 86 i1.toNatClampNeg) + i2_22) / 64 * 64)), (0, .ref 78), (1, .int i1)]) hC dX9_plan_84 (lm 3 rfl) (congrArg _ ic_1) (by decide) rfl ?_
      refine x_goto (tgt := 22) hC dX9_plan_87 (by decide) ?_
      exact x_subk [2, 3, 0] rfl hp
theorem dX9_give_0 : decode cX9_give 0 = .ok (.iconst 0, 1) := by decide +kernel
theorem dX9_give_1 : decode cX9_give 1 = .ok (.istore_n 3, 1) := by decide +kernel
theorem dX9_give_2 : decode cX9_give 2 = .ok (.iload_n 3, 1) := by decide +kernel
theorem dX9_give_3 : decode cX9_give 3 = .ok (.iload_n 2, 1) := by decide +kernel
theorem dX9_give_4 : decode cX9_give 4 = .ok (.if_icmp .ge 91, 3) := by decide +kernel
theorem dX9_give_7 : decode cX9_give 7 = .ok (.bipush 64, 2) := by decide +kernel
theorem dX9_give_9 : decode cX9_give 9 = .ok (.iload_n 1, 1) := by decide +kernel
theorem dX9_give_10 : decode cX9_give 10 = .ok (.imul, 1) := by decide +kernel
theorem dX9_give_11 : decode cX9_give 11 = .ok (.aload_n 0, 1) := by decide +kernel
theorem dX9_give_12 : decode cX9_give 12 = .ok (.getfield 34, 3) := by decide +kernel
theorem dX9_give_15 : decode cX9_give 15 = .ok (.iload_n 1, 1) := by decide +kernel
theorem dX9_give_16 : decode cX9_give 16 = .ok (.iaload, 1) := by decide +kernel
theorem dX9_give_17 : decode cX9_give 17 = .ok (.iadd, 1) := by decide +kernel
theorem dX9_give_18 : decode cX9_give 18 = .ok (.istore 4, 2) := by decide +kernel
theorem dX9_give_20 : decode cX9_give 20 = .ok (.aload_n 0, 1) := by decide +kernel
theorem dX9_give_21 : decode cX9_give 21 = .ok (.getfield 59, 3) := by decide +kernel
theorem dX9_give_24 : decode cX9_give 24 = .ok (.iload 4, 2) := by decide +kernel
theorem dX9_give_26 : decode cX9_give 26 = .ok (.aload_n 0, 1) := by decide +kernel
theorem dX9_give_27 : decode cX9_give 27 = .ok (.getfield 53, 3) := by decide +kernel
theorem dX9_give_30 : decode cX9_give 30 = .ok (.bipush 24, 2) := by decide +kernel
theorem dX9_give_32 : decode cX9_give 32 = .ok (.iload_n 1, 1) := by decide +kernel
theorem dX9_give_33 : decode cX9_give 33 = .ok (.imul, 1) := by decide +kernel
theorem dX9_give_34 : decode cX9_give 34 = .ok (.iload_n 3, 1) := by decide +kernel
theorem dX9_give_35 : decode cX9_give 35 = .ok (.iadd, 1) := by decide +kernel
theorem dX9_give_36 : decode cX9_give 36 = .ok (.iaload, 1) := by decide +kernel
theorem dX9_give_37 : decode cX9_give 37 = .ok (.iastore, 1) := by decide +kernel
theorem dX9_give_38 : decode cX9_give 38 = .ok (.aload_n 0, 1) := by decide +kernel
theorem dX9_give_39 : decode cX9_give 39 = .ok (.getfield 62, 3) := by decide +kernel
theorem dX9_give_42 : decode cX9_give 42 = .ok (.iload 4, 2) := by decide +kernel
theorem dX9_give_44 : decode cX9_give 44 = .ok (.aload_n 0, 1) := by decide +kernel
theorem dX9_give_45 : decode cX9_give 45 = .ok (.getfield 56, 3) := by decide +kernel
theorem dX9_give_48 : decode cX9_give 48 = .ok (.bipush 24, 2) := by decide +kernel
theorem dX9_give_50 : decode cX9_give 50 = .ok (.iload_n 1, 1) := by decide +kernel
theorem dX9_give_51 : decode cX9_give 51 = .ok (.imul, 1) := by decide +kernel
theorem dX9_give_52 : decode cX9_give 52 = .ok (.iload_n 3, 1) := by decide +kernel
theorem dX9_give_53 : decode cX9_give 53 = .ok (.iadd, 1) := by decide +kernel
theorem dX9_give_54 : decode cX9_give 54 = .ok (.iaload, 1) := by decide +kernel
theorem dX9_give_55 : decode cX9_give 55 = .ok (.iastore, 1) := by decide +kernel
theorem dX9_give_56 : decode cX9_give 56 = .ok (.aload_n 0, 1) := by decide +kernel
theorem dX9_give_57 : decode cX9_give 57 = .ok (.getfield 65, 3) := by decide +kernel
theorem dX9_give_60 : decode cX9_give 60 = .ok (.iload 4, 2) := by decide +kernel
theorem dX9_give_62 : decode cX9_give 62 = .ok (.iconst 0, 1) := by decide +kernel
theorem dX9_give_63 : decode cX9_give 63 = .ok (.iastore, 1) := by decide +kernel
theorem dX9_give_64 : decode cX9_give 64 = .ok (.aload_n 0, 1) := by decide +kernel
theorem dX9_give_65 : decode cX9_give 65 = .ok (.getfield 68, 3) := by decide +kernel
theorem dX9_give_68 : decode cX9_give 68 = .ok (.iload 4, 2) := by decide +kernel
theorem dX9_give_70 : decode cX9_give 70 = .ok (.iconst 0, 1) := by decide +kernel
theorem dX9_give_71 : decode cX9_give 71 = .ok (.bastore, 1) := by decide +kernel
theorem dX9_give_72 : decode cX9_give 72 = .ok (.aload_n 0, 1) := by decide +kernel
theorem dX9_give_73 : decode cX9_give 73 = .ok (.getfield 34, 3) := by decide +kernel
theorem dX9_give_76 : decode cX9_give 76 = .ok (.iload_n 1, 1) := by decide +kernel
theorem dX9_give_77 : decode cX9_give 77 = .ok (.aload_n 0, 1) := by decide +kernel
theorem dX9_give_78 : decode cX9_give 78 = .ok (.getfield 34, 3) := by decide +kernel
theorem dX9_give_81 : decode cX9_give 81 = .ok (.iload_n 1, 1) := by decide +kernel
theorem dX9_give_82 : decode cX9_give 82 = .ok (.iaload, 1) := by decide +kernel
theorem dX9_give_83 : decode cX9_give 83 = .ok (.iconst 1, 1) := by decide +kernel
theorem dX9_give_84 : decode cX9_give 84 = .ok (.iadd, 1) := by decide +kernel
theorem dX9_give_85 : decode cX9_give 85 = .ok (.bipush 64, 2) := by decide +kernel
theorem dX9_give_87 : decode cX9_give 87 = .ok (.irem, 1) := by decide +kernel
theorem dX9_give_88 : decode cX9_give 88 = .ok (.iastore, 1) := by decide +kernel
theorem dX9_give_89 : decode cX9_give 89 = .ok (.iinc 3 1, 3) := by decide +kernel
theorem dX9_give_92 : decode cX9_give 92 = .ok (.goto (-90), 3) := by decide +kernel
theorem dX9_give_95 : decode cX9_give 95 = .ok (.aload_n 0, 1) := by decide +kernel
theorem dX9_give_96 : decode cX9_give 96 = .ok (.getfield 50, 3) := by decide +kernel
theorem dX9_give_99 : decode cX9_give 99 = .ok (.iload_n 1, 1) := by decide +kernel
theorem dX9_give_100 : decode cX9_give 100 = .ok (.dup2, 1) := by decide +kernel
theorem dX9_give_101 : decode cX9_give 101 = .ok (.iaload, 1) := by decide +kernel
theorem dX9_give_102 : decode cX9_give 102 = .ok (.iload_n 2, 1) := by decide +kernel
theorem dX9_give_103 : decode cX9_give 103 = .ok (.isub, 1) := by decide +kernel
theorem dX9_give_104 : decode cX9_give 104 = .ok (.iastore, 1) := by decide +kernel
theorem dX9_give_105 : decode cX9_give 105 = .ok (.iconst 0, 1) := by decide +kernel
theorem dX9_give_106 : decode cX9_give 106 = .ok (.istore_n 3, 1) := by decide +kernel
theorem dX9_give_107 : decode cX9_give 107 = .ok (.iload_n 3, 1) := by decide +kernel
theorem dX9_give_108 : decode cX9_give 108 = .ok (.aload_n 0, 1) := by decide +kernel
theorem dX9_give_109 : decode cX9_give 109 = .ok (.getfield 50, 3) := by decide +kernel
theorem dX9_give_112 : decode cX9_give 112 = .ok (.iload_n 1, 1) := by decide +kernel
theorem dX9_give_113 : decode cX9_give 113 = .ok (.iaload, 1) := by decide +kernel
theorem dX9_give_114 : decode cX9_give 114 = .ok (.if_icmp .ge 57, 3) := by decide +kernel
theorem dX9_give_117 : decode cX9_give 117 = .ok (.aload_n 0, 1) := by decide +kernel
theorem dX9_give_118 : decode cX9_give 118 = .ok (.getfield 53, 3) := by decide +kernel
theorem dX9_give_121 : decode cX9_give 121 = .ok (.bipush 24, 2) := by decide +kernel
theorem dX9_give_123 : decode cX9_give 123 = .ok (.iload_n 1, 1) := by decide +kernel
theorem dX9_give_124 : decode cX9_give 124 = .ok (.imul, 1) := by decide +kernel
theorem dX9_give_125 : decode cX9_give 125 = .ok (.iload_n 3, 1) := by decide +kernel
theorem dX9_give_126 : decode cX9_give 126 = .ok (.iadd, 1) := by decide +kernel
theorem dX9_give_127 : decode cX9_give 127 = .ok (.aload_n 0, 1) := by decide +kernel
theorem dX9_give_128 : decode cX9_give 128 = .ok (.getfield 53, 3) := by decide +kernel
theorem dX9_give_131 : decode cX9_give 131 = .ok (.bipush 24, 2) := by decide +kernel
theorem dX9_give_133 : decode cX9_give 133 = .ok (.iload_n 1, 1) := by decide +kernel
theorem dX9_give_134 : decode cX9_give 134 = .ok (.imul, 1) := by decide +kernel
theorem dX9_give_135 : decode cX9_give 135 = .ok (.iload_n 3, 1) := by decide +kernel
theorem dX9_give_136 : decode cX9_give 136 = .ok (.iadd, 1) := by decide +kernel
theorem dX9_give_137 : decode cX9_give 137 = .ok (.iload_n 2, 1) := by decide +kernel
theorem dX9_give_138 : decode cX9_give 138 = .ok (.iadd, 1) := by decide +kernel
theorem dX9_give_139 : decode cX9_give 139 = .ok (.iaload, 1) := by decide +kernel
theorem dX9_give_140 : decode cX9_give 140 = .ok (.iastore, 1) := by decide +kernel
theorem dX9_give_141 : decode cX9_give 141 = .ok (.aload_n 0, 1) := by decide +kernel
theorem dX9_give_142 : decode cX9_give 142 = .ok (.getfield 56, 3) := by decide +kernel
theorem dX9_give_145 : decode cX9_give 145 = .ok (.bipush 24, 2) := by decide +kernel
theorem dX9_give_147 : decode cX9_give 147 = .ok (.iload_n 1, 1) := by decide +kernel
theorem dX9_give_148 : decode cX9_give 148 = .ok (.imul, 1) := by decide +kernel
theorem dX9_give_149 : decode cX9_give 149 = .ok (.iload_n 3, 1) := by decide +kernel
theorem dX9_give_150 : decode cX9_give 150 = .ok (.iadd, 1) := by decide +kernel
theorem dX9_give_151 : decode cX9_give 151 = .ok (.aload_n 0, 1) := by decide +kernel
theorem dX9_give_152 : decode cX9_give 152 = .ok (.getfield 56, 3) := by decide +kernel
theorem dX9_give_155 : decode cX9_give 155 = .ok (.bipush 24, 2) := by decide +kernel
theorem dX9_give_157 : decode cX9_give 157 = .ok (.iload_n 1, 1) := by decide +kernel
theorem dX9_give_158 : decode cX9_give 158 = .ok (.imul, 1) := by decide +kernel
theorem dX9_give_159 : decode cX9_give 159 = .ok (.iload_n 3, 1) := by decide +kernel
theorem dX9_give_160 : decode cX9_give 160 = .ok (.iadd, 1) := by decide +kernel
theorem dX9_give_161 : decode cX9_give 161 = .ok (.iload_n 2, 1) := by decide +kernel
theorem dX9_give_162 : decode cX9_give 162 = .ok (.iadd, 1) := by decide +kernel
theorem dX9_give_163 : decode cX9_give 163 = .ok (.iaload, 1) := by decide +kernel
theorem dX9_give_164 : decode cX9_give 164 = .ok (.iastore, 1) := by decide +kernel
theorem dX9_give_165 : decode cX9_give 165 = .ok (.iinc 3 1, 3) := by decide +kernel
theorem dX9_give_168 : decode cX9_give 168 = .ok (.goto (-61), 3) := by decide +kernel
theorem dX9_give_171 : decode cX9_give 171 = .ok (.return_, 1) := by decide +kernel
abbrev rm_X9_give : Room := { frames := 0, cells := 0, slots := 0, locals := 0 }
def P_X9_give (i1 : Int32) (i2 : Int32) (h : HP) (Q : HP → Prop) : Prop := Lp2 (fun X_2 (i3_2 : Int32) (h_2 : HP) => ((i2 ≤ i3_2) → ((vp_in i1 4) ∧ ((vp_in i1 4) ∧ (Lp2 (fun X_107 (i3_107 : Int32) (h_107 : HP) => (vp_in i1 4) ∧ ((((h_107.1 92 i1.toNatClampNeg) ≤ i3_107) → Q h_107) ∧ ((¬ (h_107.1 92 i1.toNatClampNeg) ≤ i3_107) → ((vp_in (((24 * i1) + i3_107) + i2) 96) ∧ ((vp_in ((24 * i1) + i3_107) 96) ∧ ((vp_in (((24 * i1) + i3_107) + i2) 96) ∧ ((vp_in ((24 * i1) + i3_107) 96) ∧ (X_107 (i3_107 + 1) (si (si h_107 93 ((24 * i1) + i3_107).toNatClampNeg (h_107.1 93 (((24 * i1) + i3_107) + i2).toNatClampNeg)) 94 ((24 * i1) + i3_107).toNatClampNeg ((si h_107 93 ((24 * i1) + i3_107).toNatClampNeg (h_107.1 93 (((24 * i1) + i3_107) + i2).toNatClampNeg)).1 94 (((24 * i1) + i3_107) + i2).toNatClampNeg)))))))))) 0 (si h_2 92 i1.toNatClampNeg ((h_2.1 92 i1.toNatClampNeg) - i2)))))) ∧ ((¬ i2 ≤ i3_2) → ((vp_in i1 4) ∧ ((vp_in ((24 * i1) + i3_2) 96) ∧ ((vp_in ((64 * i1) + (h_2.1 87 i1.toNatClampNeg)) 256) ∧ ((vp_in ((24 * i1) + i3_2) 96) ∧ ((vp_in ((64 * i1) + (h_2.1 87 i1.toNatClampNeg)) 256) ∧ ((vp_in ((64 * i1) + (h_2.1 87 i1.toNatClampNeg)) 256) ∧ ((vp_in ((64 * i1) + (h_2.1 87 i1.toNatClampNeg)) 256) ∧ ((vp_in i1 4) ∧ ((vp_in i1 4) ∧ (X_2 (i3_2 + 1) (si (si (si (si (si h_2 95 ((64 * i1) + (h_2.1 87 i1.toNatClampNeg)).toNatClampNeg (h_2.1 93 ((24 * i1) + i3_2).toNatClampNeg)) 96 ((64 * i1) + (h_2.1 87 i1.toNatClampNeg)).toNatClampNeg ((si h_2 95 ((64 * i1) + (h_2.1 87 i1.toNatClampNeg)).toNatClampNeg (h_2.1 93 ((24 * i1) + i3_2).toNatClampNeg)).1 94 ((24 * i1) + i3_2).toNatClampNeg)) 97 ((64 * i1) + (h_2.1 87 i1.toNatClampNeg)).toNatClampNeg 0) 98 ((64 * i1) + (h_2.1 87 i1.toNatClampNeg)).toNatClampNeg 0) 87 i1.toNatClampNeg ((((si (si (si (si h_2 95 ((64 * i1) + (h_2.1 87 i1.toNatClampNeg)).toNatClampNeg (h_2.1 93 ((24 * i1) + i3_2).toNatClampNeg)) 96 ((64 * i1) + (h_2.1 87 i1.toNatClampNeg)).toNatClampNeg ((si h_2 95 ((64 * i1) + (h_2.1 87 i1.toNatClampNeg)).toNatClampNeg (h_2.1 93 ((24 * i1) + i3_2).toNatClampNeg)).1 94 ((24 * i1) + i3_2).toNatClampNeg)) 97 ((64 * i1) + (h_2.1 87 i1.toNatClampNeg)).toNatClampNeg 0) 98 ((64 * i1) + (h_2.1 87 i1.toNatClampNeg)).toNatClampNeg 0).1 87 i1.toNatClampNeg) + 1) - (((si (si (si (si h_2 95 ((64 * i1) + (h_2.1 87 i1.toNatClampNeg)).toNatClampNeg (h_2.1 93 ((24 * i1) + i3_2).toNatClampNeg)) 96 ((64 * i1) + (h_2.1 87 i1.toNatClampNeg)).toNatClampNeg ((si h_2 95 ((64 * i1) + (h_2.1 87 i1.toNatClampNeg)).toNatClampNeg (h_2.1 93 ((24 * i1) + i3_2).toNatClampNeg)).1 94 ((24 * i1) + i3_2).toNatClampNeg)) 97 ((64 * i1) + (h_2.1 87 i1.toNatClampNeg)).toNatClampNeg 0) 98 ((64 * i1) + (h_2.1 87 i1.toNatClampNeg)).toNatClampNeg 0).1 87 i1.toNatClampNeg) + 1) / 64 * 64)))))))))))))) 0 h
set_option maxHeartbeats 4000000 in
theorem t_X9_give {i1 : Int32} {i2 : Int32} {h : HP} {Q : HP → Prop}  (hp : P_X9_give i1 i2 h Q) : MT yX9_give cX9_give 5 none rm_X9_give [.ref 78, .int i1, .int i2] gM SH (emb h) (pV Q) := by
  refine MT.of (by decide +kernel) (Nat.le_of_ble_eq_true rfl) (fun C hC hE => ?_)
  show SW C gM 0 [(0, .ref 78), (1, .int i1), (2, .int i2)] [] h
  unfold P_X9_give at hp
  refine x_iconst hC dX9_give_0 ic_0 ?_
  refine x_istore_n (lv' := [(3, .int 0), (0, .ref 78), (1, .int i1), (2, .int i2)]) hC dX9_give_1 (by decide) rfl ?_
  refine x_subk (lv' := [(0, .ref 78), (1, .int i1), (2, .int i2), (3, .int 0)]) [1, 2, 3, 0] rfl ?_
  refine hp (fun i3_2 h_2 => SW C gM 2 [(0, .ref 78), (1, .int i1), (2, .int i2), (3, .int i3_2)] [] h_2) (fun i3_2 h_2 hp => ?_)
  refine x_iload_n hC dX9_give_2 (lm 3 rfl) ?_
  refine x_iload_n hC dX9_give_3 (lm 2 rfl) ?_
  refine x_icmp_ge (tgt := 95) hC dX9_give_4 (by decide) (fun hc => ?_) (fun hc => ?_)
  · have hp := hp.1 hc
    refine x_aload_n hC dX9_give_95 (lm 0 rfl) ?_
    refine s_getR (r := 92) hC dX9_give_96 fk_9_50 ty_78 (fr_9_20 ty_78).1 ?_
    refine x_iload_n hC dX9_give_99 (lm 1 rfl) ?_
    refine x_dup2 hC dX9_give_100 rfl rfl ?_
    obtain ⟨ho, hp⟩ := hp
    refine s_iald hC dX9_give_101 ((fr_9_20 ty_78).2) ho ?_
    refine x_iload_n hC dX9_give_102 (lm 2 rfl) ?_
    refine x_isub hC dX9_give_103 ?_
    obtain ⟨ho, hp⟩ := hp
    refine s_iast hC dX9_give_104 ((fr_9_20 ty_78).2) ho ?_
    refine x_iconst hC dX9_give_105 ic_0 ?_
    refine x_istore_n (lv' := [(3, .int 0), (0, .ref 78), (1, .int i1), (2, .int i2)]) hC dX9_give_106 (by decide) rfl ?_
    refine x_subk (lv' := [(0, .ref 78), (1, .int i1), (2, .int i2), (3, .int 0)]) [1, 2, 3, 0] rfl ?_
    refine hp (fun i3_107 h_107 => SW C gM 107 [(0, .ref 78), (1, .int i1), (2, .int i2), (3, .int i3_107)] [] h_107) (fun i3_107 h_107 hp => ?_)
    refine x_iload_n hC dX9_give_107 (lm 3 rfl) ?_
    refine x_aload_n hC dX9_give_108 (lm 0 rfl) ?_
    refine s_getR (r := 92) hC dX9_give_109 fk_9_50 ty_78 (fr_9_20 ty_78).1 ?_
    refine x_iload_n hC dX9_give_112 (lm 1 rfl) ?_
    obtain ⟨ho, hp⟩ := hp
    refine s_iald hC dX9_give_113 ((fr_9_20 ty_78).2) ho ?_
    refine x_icmp_ge (tgt := 171) hC dX9_give_114 (by decide) (fun hc => ?_) (fun hc => ?_)
    · have hp := hp.1 hc
      exact x_vret hC hE dX9_give_171 ⟨_, rfl, rfl, hp⟩
    · have hp := hp.2 hc
      refine x_aload_n hC dX9_give_117 (lm 0 rfl) ?_
      refine s_getR (r := 93) hC dX9_give_118 fk_9_53 ty_78 (fr_9_21 ty_78).1 ?_
      refine x_bipush hC dX9_give_121 bp_24 ?_
      refine x_iload_n hC dX9_give_123 (lm 1 rfl) ?_
      refine x_imul hC dX9_give_124 ?_
      refine x_iload_n hC dX9_give_125 (lm 3 rfl) ?_
      refine x_iadd hC dX9_give_126 ?_
      refine x_aload_n hC dX9_give_127 (lm 0 rfl) ?_
      refine s_getR (r := 93) hC dX9_give_128 fk_9_53 ty_78 (fr_9_21 ty_78).1 ?_
      refine x_bipush hC dX9_give_131 bp_24 ?_
      refine x_iload_n hC dX9_give_133 (lm 1 rfl) ?_
      refine x_imul hC dX9_give_134 ?_
      refine x_iload_n hC dX9_give_135 (lm 3 rfl) ?_
      refine x_iadd hC dX9_give_136 ?_
      refine x_iload_n hC dX9_give_137 (lm 2 rfl) ?_
      refine x_iadd hC dX9_give_138 ?_
      obtain ⟨ho, hp⟩ := hp
      refine s_iald hC dX9_give_139 ((fr_9_21 ty_78).2) ho ?_
      obtain ⟨ho, hp⟩ := hp
      refine s_iast hC dX9_give_140 ((fr_9_21 ty_78).2) ho ?_
      refine x_aload_n hC dX9_give_141 (lm 0 rfl) ?_
      refine s_getR (r := 94) hC dX9_give_142 fk_9_56 ty_78 (fr_9_22 ty_78).1 ?_
      refine x_bipush hC dX9_give_145 bp_24 ?_
      refine x_iload_n hC dX9_give_147 (lm 1 rfl) ?_
      refine x_imul hC dX9_give_148 ?_
      refine x_iload_n hC dX9_give_149 (lm 3 rfl) ?_
      refine x_iadd hC dX9_give_150 ?_
      refine x_aload_n hC dX9_give_151 (lm 0 rfl) ?_
      refine s_getR (r := 94) hC dX9_give_152 fk_9_56 ty_78 (fr_9_22 ty_78).1 ?_
      refine x_bipush hC dX9_give_155 bp_24 ?_
      refine x_iload_n hC dX9_give_157 (lm 1 rfl) ?_
      refine x_imul hC dX9_give_158 ?_
      refine x_iload_n hC dX9_give_159 (lm 3 rfl) ?_
      refine x_iadd hC dX9_give_160 ?_
      refine x_iload_n hC dX9_give_161 (lm 2 rfl) ?_
      refine x_iadd hC dX9_give_162 ?_
      obtain ⟨ho, hp⟩ := hp
      refine s_iald hC dX9_give_163 ((fr_9_22 ty_78).2) ho ?_
      obtain ⟨ho, hp⟩ := hp
      refine s_iast hC dX9_give_164 ((fr_9_22 ty_78).2) ho ?_
      refine x_iinc (u := i3_107 + 1) (lv' := [(3, .int (i3_107 + 1)), (0, .ref 78), (1, .int i1), (2, .int i2)]) hC dX9_give_165 (lm 3 rfl) (congrArg _ ic_1) (by decide) rfl ?_
      refine x_goto (tgt := 107) hC dX9_give_168 (by decide) ?_
      exact x_subk [1, 2, 3, 0] rfl hp
  · have hp := hp.2 hc
    refine x_bipush hC dX9_give_7 bp_64 ?_
    refine x_iload_n hC dX9_give_9 (lm 1 rfl) ?_
    refine x_imul hC dX9_give_10 ?_
    refine x_aload_n hC dX9_give_11 (lm 0 rfl) ?_
    refine s_getR (r := 87) hC dX9_give_12 fk_9_34 ty_78 (fr_9_15 ty_78).1 ?_
    refine x_iload_n hC dX9_give_15 (lm 1 rfl) ?_
    obtain ⟨ho, hp⟩ := hp
    refine s_iald hC dX9_give_16 ((fr_9_15 ty_78).2) ho ?_
    refine x_iadd hC dX9_give_17 ?_
    refine x_istore (lv' := [(4, .int ((64 * i1) + (h_2.1 87 i1.toNatClampNeg))), (0, .ref 78), (1, .int i1), (2, .int i2), (3, .int i3_2)]) hC dX9_give_18 (by decide) rfl ?_
    refine x_aload_n hC dX9_give_20 (lm 1 rfl) ?_
    refine s_getR (r := 95) hC dX9_give_21 fk_9_59 ty_78 (fr_9_23 ty_78).1 ?_
    refine x_iload hC dX9_give_24 (lm 0 rfl) ?_
    refine x_aload_n hC dX9_give_26 (lm 1 rfl) ?_
    refine s_getR (r := 93) hC dX9_give_27 fk_9_53 ty_78 (fr_9_21 ty_78).1 ?_
    refine x_bipush hC dX9_give_30 bp_24 ?_
    refine x_iload_n hC dX9_give_32 (lm 2 rfl) ?_
    refine x_imul hC dX9_give_33 ?_
    refine x_iload_n hC dX9_give_34 (lm 4 rfl) ?_
    refine x_iadd hC dX9_give_35 ?_
    obtain ⟨ho, hp⟩ := hp
    refine s_iald hC dX9_give_36 ((fr_9_21 ty_78).2) ho ?_
    obtain ⟨ho, hp⟩ := hp
    refine s_iast hC dX9_give_37 ((fr_9_23 ty_78).2) ho ?_
    refine x_aload_n hC dX9_give_38 (lm 1 rfl) ?_
    refine s_getR (r := 96) hC dX9_give_39 fk_9_62 ty_78 (fr_9_24 ty_78).1 ?_
    refine x_iload hC dX9_give_42 (lm 0 rfl) ?_
    refine x_aload_n hC dX9_give_44 (lm 1 rfl) ?_
    refine s_getR (r := 94) hC dX9_give_45 fk_9_56 ty_78 (fr_9_22 ty_78).1 ?_
    refine x_bipush hC dX9_give_48 bp_24 ?_
    refine x_iload_n hC dX9_give_50 (lm 2 rfl) ?_
    refine x_imul hC dX9_give_51 ?_
    refine x_iload_n hC dX9_give_52 (lm 4 rfl) ?_
    refine x_iadd hC dX9_give_53 ?_
    obtain ⟨ho, hp⟩ := hp
    refine s_iald hC dX9_give_54 ((fr_9_22 ty_78).2) ho ?_
    obtain ⟨ho, hp⟩ := hp
    refine s_iast hC dX9_give_55 ((fr_9_24 ty_78).2) ho ?_
    refine x_aload_n hC dX9_give_56 (lm 1 rfl) ?_
    refine s_getR (r := 97) hC dX9_give_57 fk_9_65 ty_78 (fr_9_25 ty_78).1 ?_
    refine x_iload hC dX9_give_60 (lm 0 rfl) ?_
    refine x_iconst hC dX9_give_62 ic_0 ?_
    obtain ⟨ho, hp⟩ := hp
    refine s_iast hC dX9_give_63 ((fr_9_25 ty_78).2) ho ?_
    refine x_aload_n hC dX9_give_64 (lm 1 rfl) ?_
    refine s_getR (r := 98) hC dX9_give_65 fk_9_68 ty_78 (fr_9_26 ty_78).1 ?_
    refine x_iload hC dX9_give_68 (lm 0 rfl) ?_
    refine x_iconst hC dX9_give_70 ic_0 ?_
    obtain ⟨ho, hp⟩ := hp
    refine s_zast (y := 0) hC dX9_give_71 ((fr_9_26 ty_78).2) ho (by decide) ?_
    refine x_aload_n hC dX9_give_72 (lm 1 rfl) ?_
    refine s_getR (r := 87) hC dX9_give_73 fk_9_34 ty_78 (fr_9_15 ty_78).1 ?_
    refine x_iload_n hC dX9_give_76 (lm 2 rfl) ?_
    refine x_aload_n hC dX9_give_77 (lm 1 rfl) ?_
    refine s_getR (r := 87) hC dX9_give_78 fk_9_34 ty_78 (fr_9_15 ty_78).1 ?_
    refine x_iload_n hC dX9_give_81 (lm 2 rfl) ?_
    obtain ⟨ho, hp⟩ := hp
    refine s_iald hC dX9_give_82 ((fr_9_15 ty_78).2) ho ?_
    refine x_iconst hC dX9_give_83 ic_1 ?_
    refine x_iadd hC dX9_give_84 ?_
    refine x_bipush hC dX9_give_85 bp_64 ?_
    refine x_irem hC dX9_give_87 (by decide) ?_
    obtain ⟨ho, hp⟩ := hp
    refine s_iast hC dX9_give_88 ((fr_9_15 ty_78).2) ho ?_
    refine x_iinc (u := i3_2 + 1) (lv' := [(3, .int (i3_2 + 1)), (4, .int ((64 * i1) + (h_2.1 87 i1.toNatClampNeg))), (0, .ref 78), (1, .int i1), (2, .int i2)]) hC dX9_give_89 (lm 4 rfl) (congrArg _ ic_1) (by decide) rfl ?_
    refine x_goto (tgt := 2) hC dX9_give_92 (by decide) ?_
    exact x_subk [2, 3, 4, 0] rfl hp
theorem dX9_sendBundle_0 : decode cX9_sendBundle 0 = .ok (.aload_n 0, 1) := by decide +kernel
theorem dX9_sendBundle_1 : decode cX9_sendBundle 1 = .ok (.getfield 189, 3) := by decide +kernel
theorem dX9_sendBundle_4 : decode cX9_sendBundle 4 = .ok (.istore_n 2, 1) := by decide +kernel
theorem dX9_sendBundle_5 : decode cX9_sendBundle 5 = .ok (.aload_n 0, 1) := by decide +kernel
theorem dX9_sendBundle_6 : decode cX9_sendBundle 6 = .ok (.iload_n 1, 1) := by decide +kernel
theorem dX9_sendBundle_7 : decode cX9_sendBundle 7 = .ok (.aload_n 0, 1) := by decide +kernel
theorem dX9_sendBundle_8 : decode cX9_sendBundle 8 = .ok (.getfield 202, 3) := by decide +kernel
theorem dX9_sendBundle_11 : decode cX9_sendBundle 11 = .ok (.invokevirtual 209, 3) := by decide +kernel
theorem dX9_sendBundle_14 : decode cX9_sendBundle 14 = .ok (.aload_n 0, 1) := by decide +kernel
theorem dX9_sendBundle_15 : decode cX9_sendBundle 15 = .ok (.iconst 2, 1) := by decide +kernel
theorem dX9_sendBundle_16 : decode cX9_sendBundle 16 = .ok (.iload_n 1, 1) := by decide +kernel
theorem dX9_sendBundle_17 : decode cX9_sendBundle 17 = .ok (.iconst (-1), 1) := by decide +kernel
theorem dX9_sendBundle_18 : decode cX9_sendBundle 18 = .ok (.iconst (-1), 1) := by decide +kernel
theorem dX9_sendBundle_19 : decode cX9_sendBundle 19 = .ok (.iconst (-1), 1) := by decide +kernel
theorem dX9_sendBundle_20 : decode cX9_sendBundle 20 = .ok (.invokevirtual 178, 3) := by decide +kernel
theorem dX9_sendBundle_23 : decode cX9_sendBundle 23 = .ok (.istore_n 3, 1) := by decide +kernel
theorem dX9_sendBundle_24 : decode cX9_sendBundle 24 = .ok (.iconst 0, 1) := by decide +kernel
theorem dX9_sendBundle_25 : decode cX9_sendBundle 25 = .ok (.istore 4, 2) := by decide +kernel
theorem dX9_sendBundle_27 : decode cX9_sendBundle 27 = .ok (.iload 4, 2) := by decide +kernel
theorem dX9_sendBundle_29 : decode cX9_sendBundle 29 = .ok (.aload_n 0, 1) := by decide +kernel
theorem dX9_sendBundle_30 : decode cX9_sendBundle 30 = .ok (.getfield 31, 3) := by decide +kernel
theorem dX9_sendBundle_33 : decode cX9_sendBundle 33 = .ok (.iload_n 1, 1) := by decide +kernel
theorem dX9_sendBundle_34 : decode cX9_sendBundle 34 = .ok (.iaload, 1) := by decide +kernel
theorem dX9_sendBundle_35 : decode cX9_sendBundle 35 = .ok (.aload_n 0, 1) := by decide +kernel
theorem dX9_sendBundle_36 : decode cX9_sendBundle 36 = .ok (.getfield 34, 3) := by decide +kernel
theorem dX9_sendBundle_39 : decode cX9_sendBundle 39 = .ok (.iload_n 1, 1) := by decide +kernel
theorem dX9_sendBundle_40 : decode cX9_sendBundle 40 = .ok (.iaload, 1) := by decide +kernel
theorem dX9_sendBundle_41 : decode cX9_sendBundle 41 = .ok (.invokestatic 119, 3) := by decide +kernel
theorem dX9_sendBundle_44 : decode cX9_sendBundle 44 = .ok (.if_icmp .ge 166, 3) := by decide +kernel
theorem dX9_sendBundle_47 : decode cX9_sendBundle 47 = .ok (.aload_n 0, 1) := by decide +kernel
theorem dX9_sendBundle_48 : decode cX9_sendBundle 48 = .ok (.getfield 107, 3) := by decide +kernel
theorem dX9_sendBundle_51 : decode cX9_sendBundle 51 = .ok (.iload_n 3, 1) := by decide +kernel
theorem dX9_sendBundle_52 : decode cX9_sendBundle 52 = .ok (.bipush 7, 2) := by decide +kernel
theorem dX9_sendBundle_54 : decode cX9_sendBundle 54 = .ok (.iadd, 1) := by decide +kernel
theorem dX9_sendBundle_55 : decode cX9_sendBundle 55 = .ok (.iaload, 1) := by decide +kernel
theorem dX9_sendBundle_56 : decode cX9_sendBundle 56 = .ok (.iload_n 2, 1) := by decide +kernel
theorem dX9_sendBundle_57 : decode cX9_sendBundle 57 = .ok (.if_icmp .ge 153, 3) := by decide +kernel
theorem dX9_sendBundle_60 : decode cX9_sendBundle 60 = .ok (.aload_n 0, 1) := by decide +kernel
theorem dX9_sendBundle_61 : decode cX9_sendBundle 61 = .ok (.getfield 31, 3) := by decide +kernel
theorem dX9_sendBundle_64 : decode cX9_sendBundle 64 = .ok (.iload_n 1, 1) := by decide +kernel
theorem dX9_sendBundle_65 : decode cX9_sendBundle 65 = .ok (.iaload, 1) := by decide +kernel
theorem dX9_sendBundle_66 : decode cX9_sendBundle 66 = .ok (.iload 4, 2) := by decide +kernel
theorem dX9_sendBundle_68 : decode cX9_sendBundle 68 = .ok (.iadd, 1) := by decide +kernel
theorem dX9_sendBundle_69 : decode cX9_sendBundle 69 = .ok (.bipush 64, 2) := by decide +kernel
theorem dX9_sendBundle_71 : decode cX9_sendBundle 71 = .ok (.irem, 1) := by decide +kernel
theorem dX9_sendBundle_72 : decode cX9_sendBundle 72 = .ok (.istore 5, 2) := by decide +kernel
theorem dX9_sendBundle_74 : decode cX9_sendBundle 74 = .ok (.bipush 64, 2) := by decide +kernel
theorem dX9_sendBundle_76 : decode cX9_sendBundle 76 = .ok (.iload_n 1, 1) := by decide +kernel
theorem dX9_sendBundle_77 : decode cX9_sendBundle 77 = .ok (.imul, 1) := by decide +kernel
theorem dX9_sendBundle_78 : decode cX9_sendBundle 78 = .ok (.iload 5, 2) := by decide +kernel
theorem dX9_sendBundle_80 : decode cX9_sendBundle 80 = .ok (.iadd, 1) := by decide +kernel
theorem dX9_sendBundle_81 : decode cX9_sendBundle 81 = .ok (.istore 6, 2) := by decide +kernel
theorem dX9_sendBundle_83 : decode cX9_sendBundle 83 = .ok (.aload_n 0, 1) := by decide +kernel
theorem dX9_sendBundle_84 : decode cX9_sendBundle 84 = .ok (.getfield 68, 3) := by decide +kernel
theorem dX9_sendBundle_87 : decode cX9_sendBundle 87 = .ok (.iload 6, 2) := by decide +kernel
theorem dX9_sendBundle_89 : decode cX9_sendBundle 89 = .ok (.baload, 1) := by decide +kernel
theorem dX9_sendBundle_90 : decode cX9_sendBundle 90 = .ok (.ifCond .ne 114, 3) := by decide +kernel
theorem dX9_sendBundle_93 : decode cX9_sendBundle 93 = .ok (.iconst 4, 1) := by decide +kernel
theorem dX9_sendBundle_94 : decode cX9_sendBundle 94 = .ok (.iload_n 3, 1) := by decide +kernel
theorem dX9_sendBundle_95 : decode cX9_sendBundle 95 = .ok (.imul, 1) := by decide +kernel
theorem dX9_sendBundle_96 : decode cX9_sendBundle 96 = .ok (.iconst 4, 1) := by decide +kernel
theorem dX9_sendBundle_97 : decode cX9_sendBundle 97 = .ok (.aload_n 0, 1) := by decide +kernel
theorem dX9_sendBundle_98 : decode cX9_sendBundle 98 = .ok (.getfield 107, 3) := by decide +kernel
theorem dX9_sendBundle_101 : decode cX9_sendBundle 101 = .ok (.iload_n 3, 1) := by decide +kernel
theorem dX9_sendBundle_102 : decode cX9_sendBundle 102 = .ok (.bipush 7, 2) := by decide +kernel
theorem dX9_sendBundle_104 : decode cX9_sendBundle 104 = .ok (.iadd, 1) := by decide +kernel
theorem dX9_sendBundle_105 : decode cX9_sendBundle 105 = .ok (.iaload, 1) := by decide +kernel
theorem dX9_sendBundle_106 : decode cX9_sendBundle 106 = .ok (.imul, 1) := by decide +kernel
theorem dX9_sendBundle_107 : decode cX9_sendBundle 107 = .ok (.iadd, 1) := by decide +kernel
theorem dX9_sendBundle_108 : decode cX9_sendBundle 108 = .ok (.istore 7, 2) := by decide +kernel
theorem dX9_sendBundle_110 : decode cX9_sendBundle 110 = .ok (.aload_n 0, 1) := by decide +kernel
theorem dX9_sendBundle_111 : decode cX9_sendBundle 111 = .ok (.getfield 110, 3) := by decide +kernel
theorem dX9_sendBundle_114 : decode cX9_sendBundle 114 = .ok (.iload 7, 2) := by decide +kernel
theorem dX9_sendBundle_116 : decode cX9_sendBundle 116 = .ok (.iload 5, 2) := by decide +kernel
theorem dX9_sendBundle_118 : decode cX9_sendBundle 118 = .ok (.iastore, 1) := by decide +kernel
theorem dX9_sendBundle_119 : decode cX9_sendBundle 119 = .ok (.aload_n 0, 1) := by decide +kernel
theorem dX9_sendBundle_120 : decode cX9_sendBundle 120 = .ok (.getfield 110, 3) := by decide +kernel
theorem dX9_sendBundle_123 : decode cX9_sendBundle 123 = .ok (.iload 7, 2) := by decide +kernel
theorem dX9_sendBundle_125 : decode cX9_sendBundle 125 = .ok (.iconst 1, 1) := by decide +kernel
theorem dX9_sendBundle_126 : decode cX9_sendBundle 126 = .ok (.iadd, 1) := by decide +kernel
theorem dX9_sendBundle_127 : decode cX9_sendBundle 127 = .ok (.aload_n 0, 1) := by decide +kernel
theorem dX9_sendBundle_128 : decode cX9_sendBundle 128 = .ok (.getfield 59, 3) := by decide +kernel
theorem dX9_sendBundle_131 : decode cX9_sendBundle 131 = .ok (.iload 6, 2) := by decide +kernel
theorem dX9_sendBundle_133 : decode cX9_sendBundle 133 = .ok (.iaload, 1) := by decide +kernel
theorem dX9_sendBundle_134 : decode cX9_sendBundle 134 = .ok (.iastore, 1) := by decide +kernel
theorem dX9_sendBundle_135 : decode cX9_sendBundle 135 = .ok (.aload_n 0, 1) := by decide +kernel
theorem dX9_sendBundle_136 : decode cX9_sendBundle 136 = .ok (.getfield 110, 3) := by decide +kernel
theorem dX9_sendBundle_139 : decode cX9_sendBundle 139 = .ok (.iload 7, 2) := by decide +kernel
theorem dX9_sendBundle_141 : decode cX9_sendBundle 141 = .ok (.iconst 2, 1) := by decide +kernel
theorem dX9_sendBundle_142 : decode cX9_sendBundle 142 = .ok (.iadd, 1) := by decide +kernel
theorem dX9_sendBundle_143 : decode cX9_sendBundle 143 = .ok (.aload_n 0, 1) := by decide +kernel
theorem dX9_sendBundle_144 : decode cX9_sendBundle 144 = .ok (.getfield 62, 3) := by decide +kernel
theorem dX9_sendBundle_147 : decode cX9_sendBundle 147 = .ok (.iload 6, 2) := by decide +kernel
theorem dX9_sendBundle_149 : decode cX9_sendBundle 149 = .ok (.iaload, 1) := by decide +kernel
theorem dX9_sendBundle_150 : decode cX9_sendBundle 150 = .ok (.iastore, 1) := by decide +kernel
theorem dX9_sendBundle_151 : decode cX9_sendBundle 151 = .ok (.aload_n 0, 1) := by decide +kernel
theorem dX9_sendBundle_152 : decode cX9_sendBundle 152 = .ok (.getfield 110, 3) := by decide +kernel
theorem dX9_sendBundle_155 : decode cX9_sendBundle 155 = .ok (.iload 7, 2) := by decide +kernel
theorem dX9_sendBundle_157 : decode cX9_sendBundle 157 = .ok (.iconst 3, 1) := by decide +kernel
theorem dX9_sendBundle_158 : decode cX9_sendBundle 158 = .ok (.iadd, 1) := by decide +kernel
theorem dX9_sendBundle_159 : decode cX9_sendBundle 159 = .ok (.iload_n 1, 1) := by decide +kernel
theorem dX9_sendBundle_160 : decode cX9_sendBundle 160 = .ok (.iload 5, 2) := by decide +kernel
theorem dX9_sendBundle_162 : decode cX9_sendBundle 162 = .ok (.aload_n 0, 1) := by decide +kernel
theorem dX9_sendBundle_163 : decode cX9_sendBundle 163 = .ok (.getfield 59, 3) := by decide +kernel
theorem dX9_sendBundle_166 : decode cX9_sendBundle 166 = .ok (.iload 6, 2) := by decide +kernel
theorem dX9_sendBundle_168 : decode cX9_sendBundle 168 = .ok (.iaload, 1) := by decide +kernel
theorem dX9_sendBundle_169 : decode cX9_sendBundle 169 = .ok (.aload_n 0, 1) := by decide +kernel
theorem dX9_sendBundle_170 : decode cX9_sendBundle 170 = .ok (.getfield 62, 3) := by decide +kernel
theorem dX9_sendBundle_173 : decode cX9_sendBundle 173 = .ok (.iload 6, 2) := by decide +kernel
theorem dX9_sendBundle_175 : decode cX9_sendBundle 175 = .ok (.iaload, 1) := by decide +kernel
theorem dX9_sendBundle_176 : decode cX9_sendBundle 176 = .ok (.invokestatic 213, 3) := by decide +kernel
theorem dX9_sendBundle_179 : decode cX9_sendBundle 179 = .ok (.iastore, 1) := by decide +kernel
theorem dX9_sendBundle_180 : decode cX9_sendBundle 180 = .ok (.aload_n 0, 1) := by decide +kernel
theorem dX9_sendBundle_181 : decode cX9_sendBundle 181 = .ok (.getfield 65, 3) := by decide +kernel
theorem dX9_sendBundle_184 : decode cX9_sendBundle 184 = .ok (.iload 6, 2) := by decide +kernel
theorem dX9_sendBundle_186 : decode cX9_sendBundle 186 = .ok (.dup2, 1) := by decide +kernel
theorem dX9_sendBundle_187 : decode cX9_sendBundle 187 = .ok (.iaload, 1) := by decide +kernel
theorem dX9_sendBundle_188 : decode cX9_sendBundle 188 = .ok (.iconst 1, 1) := by decide +kernel
theorem dX9_sendBundle_189 : decode cX9_sendBundle 189 = .ok (.iadd, 1) := by decide +kernel
theorem dX9_sendBundle_190 : decode cX9_sendBundle 190 = .ok (.iastore, 1) := by decide +kernel
theorem dX9_sendBundle_191 : decode cX9_sendBundle 191 = .ok (.aload_n 0, 1) := by decide +kernel
theorem dX9_sendBundle_192 : decode cX9_sendBundle 192 = .ok (.getfield 107, 3) := by decide +kernel
theorem dX9_sendBundle_195 : decode cX9_sendBundle 195 = .ok (.iload_n 3, 1) := by decide +kernel
theorem dX9_sendBundle_196 : decode cX9_sendBundle 196 = .ok (.bipush 7, 2) := by decide +kernel
theorem dX9_sendBundle_198 : decode cX9_sendBundle 198 = .ok (.iadd, 1) := by decide +kernel
theorem dX9_sendBundle_199 : decode cX9_sendBundle 199 = .ok (.dup2, 1) := by decide +kernel
theorem dX9_sendBundle_200 : decode cX9_sendBundle 200 = .ok (.iaload, 1) := by decide +kernel
theorem dX9_sendBundle_201 : decode cX9_sendBundle 201 = .ok (.iconst 1, 1) := by decide +kernel
theorem dX9_sendBundle_202 : decode cX9_sendBundle 202 = .ok (.iadd, 1) := by decide +kernel
theorem dX9_sendBundle_203 : decode cX9_sendBundle 203 = .ok (.iastore, 1) := by decide +kernel
theorem dX9_sendBundle_204 : decode cX9_sendBundle 204 = .ok (.iinc 4 1, 3) := by decide +kernel
theorem dX9_sendBundle_207 : decode cX9_sendBundle 207 = .ok (.goto (-180), 3) := by decide +kernel
theorem dX9_sendBundle_210 : decode cX9_sendBundle 210 = .ok (.aload_n 0, 1) := by decide +kernel
theorem dX9_sendBundle_211 : decode cX9_sendBundle 211 = .ok (.getfield 13, 3) := by decide +kernel
theorem dX9_sendBundle_214 : decode cX9_sendBundle 214 = .ok (.iconst 2, 1) := by decide +kernel
theorem dX9_sendBundle_215 : decode cX9_sendBundle 215 = .ok (.dup2, 1) := by decide +kernel
theorem dX9_sendBundle_216 : decode cX9_sendBundle 216 = .ok (.iaload, 1) := by decide +kernel
theorem dX9_sendBundle_217 : decode cX9_sendBundle 217 = .ok (.iload_n 2, 1) := by decide +kernel
theorem dX9_sendBundle_218 : decode cX9_sendBundle 218 = .ok (.iadd, 1) := by decide +kernel
theorem dX9_sendBundle_219 : decode cX9_sendBundle 219 = .ok (.iastore, 1) := by decide +kernel
theorem dX9_sendBundle_220 : decode cX9_sendBundle 220 = .ok (.aload_n 0, 1) := by decide +kernel
theorem dX9_sendBundle_221 : decode cX9_sendBundle 221 = .ok (.getfield 37, 3) := by decide +kernel
theorem dX9_sendBundle_224 : decode cX9_sendBundle 224 = .ok (.iload_n 1, 1) := by decide +kernel
theorem dX9_sendBundle_225 : decode cX9_sendBundle 225 = .ok (.iconst 1, 1) := by decide +kernel
theorem dX9_sendBundle_226 : decode cX9_sendBundle 226 = .ok (.bastore, 1) := by decide +kernel
theorem dX9_sendBundle_227 : decode cX9_sendBundle 227 = .ok (.aload_n 0, 1) := by decide +kernel
theorem dX9_sendBundle_228 : decode cX9_sendBundle 228 = .ok (.getfield 44, 3) := by decide +kernel
theorem dX9_sendBundle_231 : decode cX9_sendBundle 231 = .ok (.iload_n 1, 1) := by decide +kernel
theorem dX9_sendBundle_232 : decode cX9_sendBundle 232 = .ok (.iconst 0, 1) := by decide +kernel
theorem dX9_sendBundle_233 : decode cX9_sendBundle 233 = .ok (.bastore, 1) := by decide +kernel
theorem dX9_sendBundle_234 : decode cX9_sendBundle 234 = .ok (.iload_n 2, 1) := by decide +kernel
theorem dX9_sendBundle_235 : decode cX9_sendBundle 235 = .ok (.ireturn, 1) := by decide +kernel
abbrev rm_X9_sendBundle : Room := { frames := 2, cells := 0, slots := 0, locals := 48 }
def P_X9_sendBundle_j210 (_q0 : Nat) (i1 : Int32) (i2 : Int32) (h : HP)  (Q : Int32 → HP → Prop) : Prop := (vp_in i1 4) ∧ ((vp_in i1 4) ∧ (Q i2 (si (si (si h 80 2 ((h.1 80 2) + i2)) 88 i1.toNatClampNeg 1) 90 i1.toNatClampNeg 0)))
def P_X9_sendBundle (i1 : Int32) (h : HP) (Q : Int32 → HP → Prop) : Prop := P_X9_give i1 (h.1 78 44) h (fun (h_11 : HP) => P_X9_send 2 i1 (-1) (-1) (-1) h_11 (fun (v_20 : Int32) (h_20 : HP) => Lp2 (fun X_27 (i4_27 : Int32) (h_27 : HP) => (vp_in i1 4) ∧ ((vp_in i1 4) ∧ (P_X9_ahead (h_27.1 86 i1.toNatClampNeg) (h_27.1 87 i1.toNatClampNeg) h_27 (fun (v_41 : Int32) (h_41 : HP) => ((v_41 ≤ i4_27) → (P_X9_sendBundle_j210 78 i1 (h.1 78 42) h_41 Q)) ∧ ((¬ v_41 ≤ i4_27) → ((vp_in (v_20 + 7) 128) ∧ ((((h.1 78 42) ≤ (h_41.1 111 (v_20 + 7).toNatClampNeg)) → (P_X9_sendBundle_j210 78 i1 (h.1 78 42) h_41 Q)) ∧ ((¬ (h.1 78 42) ≤ (h_41.1 111 (v_20 + 7).toNatClampNeg)) → ((vp_in i1 4) ∧ ((vp_in ((64 * i1) + (((h_41.1 86 i1.toNatClampNeg) + i4_27) - ((h_41.1 86 i1.toNatClampNeg) + i4_27) / 64 * 64)) 256) ∧ (((¬ (h_41.1 98 ((64 * i1) + (((h_41.1 86 i1.toNatClampNeg) + i4_27) - ((h_41.1 86 i1.toNatClampNeg) + i4_27) / 64 * 64)).toNatClampNeg) = 0) → (X_27 (i4_27 + 1) h_41)) ∧ (((h_41.1 98 ((64 * i1) + (((h_41.1 86 i1.toNatClampNeg) + i4_27) - ((h_41.1 86 i1.toNatClampNeg) + i4_27) / 64 * 64)).toNatClampNeg) = 0) → ((vp_in (v_20 + 7) 128) ∧ ((vp_in ((4 * v_20) + (4 * (h_41.1 111 (v_20 + 7).toNatClampNeg))) 512) ∧ ((vp_in ((64 * i1) + (((h_41.1 86 i1.toNatClampNeg) + i4_27) - ((h_41.1 86 i1.toNatClampNeg) + i4_27) / 64 * 64)) 256) ∧ ((vp_in (((4 * v_20) + (4 * (h_41.1 111 (v_20 + 7).toNatClampNeg))) + 1) 512) ∧ ((vp_in ((64 * i1) + (((h_41.1 86 i1.toNatClampNeg) + i4_27) - ((h_41.1 86 i1.toNatClampNeg) + i4_27) / 64 * 64)) 256) ∧ ((vp_in (((4 * v_20) + (4 * (h_41.1 111 (v_20 + 7).toNatClampNeg))) + 2) 512) ∧ ((vp_in ((64 * i1) + (((h_41.1 86 i1.toNatClampNeg) + i4_27) - ((h_41.1 86 i1.toNatClampNeg) + i4_27) / 64 * 64)) 256) ∧ ((vp_in ((64 * i1) + (((h_41.1 86 i1.toNatClampNeg) + i4_27) - ((h_41.1 86 i1.toNatClampNeg) + i4_27) / 64 * 64)) 256) ∧ (P_X9_checkOf i1 (((h_41.1 86 i1.toNatClampNeg) + i4_27) - ((h_41.1 86 i1.toNatClampNeg) + i4_27) / 64 * 64) ((si (si (si h_41 112 ((4 * v_20) + (4 * (h_41.1 111 (v_20 + 7).toNatClampNeg))).toNatClampNeg (((h_41.1 86 i1.toNatClampNeg) + i4_27) - ((h_41.1 86 i1.toNatClampNeg) + i4_27) / 64 * 64)) 112 (((4 * v_20) + (4 * (h_41.1 111 (v_20 + 7).toNatClampNeg))) + 1).toNatClampNeg ((si h_41 112 ((4 * v_20) + (4 * (h_41.1 111 (v_20 + 7).toNatClampNeg))).toNatClampNeg (((h_41.1 86 i1.toNatClampNeg) + i4_27) - ((h_41.1 86 i1.toNatClampNeg) + i4_27) / 64 * 64)).1 95 ((64 * i1) + (((h_41.1 86 i1.toNatClampNeg) + i4_27) - ((h_41.1 86 i1.toNatClampNeg) + i4_27) / 64 * 64)).toNatClampNeg)) 112 (((4 * v_20) + (4 * (h_41.1 111 (v_20 + 7).toNatClampNeg))) + 2).toNatClampNeg ((si (si h_41 112 ((4 * v_20) + (4 * (h_41.1 111 (v_20 + 7).toNatClampNeg))).toNatClampNeg (((h_41.1 86 i1.toNatClampNeg) + i4_27) - ((h_41.1 86 i1.toNatClampNeg) + i4_27) / 64 * 64)) 112 (((4 * v_20) + (4 * (h_41.1 111 (v_20 + 7).toNatClampNeg))) + 1).toNatClampNeg ((si h_41 112 ((4 * v_20) + (4 * (h_41.1 111 (v_20 + 7).toNatClampNeg))).toNatClampNeg (((h_41.1 86 i1.toNatClampNeg) + i4_27) - ((h_41.1 86 i1.toNatClampNeg) + i4_27) / 64 * 64)).1 95 ((64 * i1) + (((h_41.1 86 i1.toNatClampNeg) + i4_27) - ((h_41.1 86 i1.toNatClampNeg) + i4_27) / 64 * 64)).toNatClampNeg)).1 96 ((64 * i1) + (((h_41.1 86 i1.toNatClampNeg) + i4_27) - ((h_41.1 86 i1.toNatClampNeg) + i4_27) / 64 * 64)).toNatClampNeg)).1 95 ((64 * i1) + (((h_41.1 86 i1.toNatClampNeg) + i4_27) - ((h_41.1 86 i1.toNatClampNeg) + i4_27) / 64 * 64)).toNatClampNeg) ((si (si (si h_41 112 ((4 * v_20) + (4 * (h_41.1 111 (v_20 + 7).toNatClampNeg))).toNatClampNeg (((h_41.1 86 i1.toNatClampNeg) + i4_27) - ((h_41.1 86 i1.toNatClampNeg) + i4_27) / 64 * 64)) 112 (((4 * v_20) + (4 * (h_41.1 111 (v_20 + 7).toNatClampNeg))) + 1).toNatClampNeg ((si h_41 112 ((4 * v_20) + (4 * (h_41.1 111 (v_20 + 7).toNatClampNeg))).toNatClampNeg (((h_41.1 86 i1.toNatClampNeg) + i4_27) - ((h_41.1 86 i1.toNatClampNeg) + i4_27) / 64 * 64)).1 95 ((64 * i1) + (((h_41.1 86 i1.toNatClampNeg) + i4_27) - ((h_41.1 86 i1.toNatClampNeg) + i4_27) / 64 * 64)).toNatClampNeg)) 112 (((4 * v_20) + (4 * (h_41.1 111 (v_20 + 7).toNatClampNeg))) + 2).toNatClampNeg ((si (si h_41 112 ((4 * v_20) + (4 * (h_41.1 111 (v_20 + 7).toNatClampNeg))).toNatClampNeg (((h_41.1 86 i1.toNatClampNeg) + i4_27) - ((h_41.1 86 i1.toNatClampNeg) + i4_27) / 64 * 64)) 112 (((4 * v_20) + (4 * (h_41.1 111 (v_20 + 7).toNatClampNeg))) + 1).toNatClampNeg ((si h_41 112 ((4 * v_20) + (4 * (h_41.1 111 (v_20 + 7).toNatClampNeg))).toNatClampNeg (((h_41.1 86 i1.toNatClampNeg) + i4_27) - ((h_41.1 86 i1.toNatClampNeg) + i4_27) / 64 * 64)).1 95 ((64 * i1) + (((h_41.1 86 i1.toNatClampNeg) + i4_27) - ((h_41.1 86 i1.toNatClampNeg) + i4_27) / 64 * 64)).toNatClampNeg)).1 96 ((64 * i1) + (((h_41.1 86 i1.toNatClampNeg) + i4_27) - ((h_41.1 86 i1.toNatClampNeg) + i4_27) / 64 * 64)).toNatClampNeg)).1 96 ((64 * i1) + (((h_41.1 86 i1.toNatClampNeg) + i4_27) - ((h_41.1 86 i1.toNatClampNeg) + i4_27) / 64 * 64)).toNatClampNeg) (si (si (si h_41 112 ((4 * v_20) + (4 * (h_41.1 111 (v_20 + 7).toNatClampNeg))).toNatClampNeg (((h_41.1 86 i1.toNatClampNeg) + i4_27) - ((h_41.1 86 i1.toNatClampNeg) + i4_27) / 64 * 64)) 112 (((4 * v_20) + (4 * (h_41.1 111 (v_20 + 7).toNatClampNeg))) + 1).toNatClampNeg ((si h_41 112 ((4 * v_20) + (4 * (h_41.1 111 (v_20 + 7).toNatClampNeg))).toNatClampNeg (((h_41.1 86 i1.toNatClampNeg) + i4_27) - ((h_41.1 86 i1.toNatClampNeg) + i4_27) / 64 * 64)).1 95 ((64 * i1) + (((h_41.1 86 i1.toNatClampNeg) + i4_27) - ((h_41.1 86 i1.toNatClampNeg) + i4_27) / 64 * 64)).toNatClampNeg)) 112 (((4 * v_20) + (4 * (h_41.1 111 (v_20 + 7).toNatClampNeg))) + 2).toNatClampNeg ((si (si h_41 112 ((4 * v_20) + (4 * (h_41.1 111 (v_20 + 7).toNatClampNeg))).toNatClampNeg (((h_41.1 86 i1.toNatClampNeg) + i4_27) - ((h_41.1 86 i1.toNatClampNeg) + i4_27) / 64 * 64)) 112 (((4 * v_20) + (4 * (h_41.1 111 (v_20 + 7).toNatClampNeg))) + 1).toNatClampNeg ((si h_41 112 ((4 * v_20) + (4 * (h_41.1 111 (v_20 + 7).toNatClampNeg))).toNatClampNeg (((h_41.1 86 i1.toNatClampNeg) + i4_27) - ((h_41.1 86 i1.toNatClampNeg) + i4_27) / 64 * 64)).1 95 ((64 * i1) + (((h_41.1 86 i1.toNatClampNeg) + i4_27) - ((h_41.1 86 i1.toNatClampNeg) + i4_27) / 64 * 64)).toNatClampNeg)).1 96 ((64 * i1) + (((h_41.1 86 i1.toNatClampNeg) + i4_27) - ((h_41.1 86 i1.toNatClampNeg) + i4_27) / 64 * 64)).toNatClampNeg)) (fun (v_176 : Int32) (h_176 : HP) => (vp_in (((4 * v_20) + (4 * (h_41.1 111 (v_20 + 7).toNatClampNeg))) + 3) 512) ∧ ((vp_in ((64 * i1) + (((h_41.1 86 i1.toNatClampNeg) + i4_27) - ((h_41.1 86 i1.toNatClampNeg) + i4_27) / 64 * 64)) 256) ∧ ((vp_in ((64 * i1) + (((h_41.1 86 i1.toNatClampNeg) + i4_27) - ((h_41.1 86 i1.toNatClampNeg) + i4_27) / 64 * 64)) 256) ∧ ((vp_in (v_20 + 7) 128) ∧ ((vp_in (v_20 + 7) 128) ∧ (X_27 (i4_27 + 1) (si (si (si h_176 112 (((4 * v_20) + (4 * (h_41.1 111 (v_20 + 7).toNatClampNeg))) + 3).toNatClampNeg v_176) 97 ((64 * i1) + (((h_41.1 86 i1.toNatClampNeg) + i4_27) - ((h_41.1 86 i1.toNatClampNeg) + i4_27) / 64 * 64)).toNatClampNeg (((si h_176 112 (((4 * v_20) + (4 * (h_41.1 111 (v_20 + 7).toNatClampNeg))) + 3).toNatClampNeg v_176).1 97 ((64 * i1) + (((h_41.1 86 i1.toNatClampNeg) + i4_27) - ((h_41.1 86 i1.toNatClampNeg) + i4_27) / 64 * 64)).toNatClampNeg) + 1)) 111 (v_20 + 7).toNatClampNeg (((si (si h_176 112 (((4 * v_20) + (4 * (h_41.1 111 (v_20 + 7).toNatClampNeg))) + 3).toNatClampNeg v_176) 97 ((64 * i1) + (((h_41.1 86 i1.toNatClampNeg) + i4_27) - ((h_41.1 86 i1.toNatClampNeg) + i4_27) / 64 * 64)).toNatClampNeg (((si h_176 112 (((4 * v_20) + (4 * (h_41.1 111 (v_20 + 7).toNatClampNeg))) + 3).toNatClampNeg v_176).1 97 ((64 * i1) + (((h_41.1 86 i1.toNatClampNeg) + i4_27) - ((h_41.1 86 i1.toNatClampNeg) + i4_27) / 64 * 64)).toNatClampNeg) + 1)).1 111 (v_20 + 7).toNatClampNeg) + 1))))))))))))))))))))))))))))) 0 h_20))
set_option maxHeartbeats 4000000 in
theorem l_X9_sendBundle_j210 {i1 : Int32} {i2 : Int32} {h : HP}  {Q : Int32 → HP → Prop} {C : Cx} (hC : xOk C cX9_sendBundle yX9_sendBundle.cls 8 rm_X9_sendBundle (some .int)) (hE : xEnd C gM SH (pI Q))   (hp : P_X9_sendBundle_j210 78 i1 i2 h  Q) : SW C gM 210 [(0, .ref 78), (1, .int i1), (2, .int i2)] [] h := by
  unfold P_X9_sendBundle_j210 at hp
  refine x_aload_n hC dX9_sendBundle_210 (lm 0 rfl) ?_
  refine s_getR (r := 80) hC dX9_sendBundle_211 fk_9_13 ty_78 (fr_9_8 ty_78).1 ?_
  refine x_iconst hC dX9_sendBundle_214 ic_2 ?_
  refine x_dup2 hC dX9_sendBundle_215 rfl rfl ?_
  refine s_iald hC dX9_sendBundle_216 ((fr_9_8 ty_78).2) (vi (by decide)) ?_
  refine x_iload_n hC dX9_sendBundle_217 (lm 2 rfl) ?_
  refine x_iadd hC dX9_sendBundle_218 ?_
  refine s_iast hC dX9_sendBundle_219 ((fr_9_8 ty_78).2) (vi (by decide)) ?_
  refine x_aload_n hC dX9_sendBundle_220 (lm 0 rfl) ?_
  refine s_getR (r := 88) hC dX9_sendBundle_221 fk_9_37 ty_78 (fr_9_16 ty_78).1 ?_
  refine x_iload_n hC dX9_sendBundle_224 (lm 1 rfl) ?_
  refine x_iconst hC dX9_sendBundle_225 ic_1 ?_
  obtain ⟨ho, hp⟩ := hp
  refine s_zast (y := 1) hC dX9_sendBundle_226 ((fr_9_16 ty_78).2) ho (by decide) ?_
  refine x_aload_n hC dX9_sendBundle_227 (lm 0 rfl) ?_
  refine s_getR (r := 90) hC dX9_sendBundle_228 fk_9_44 ty_78 (fr_9_18 ty_78).1 ?_
  refine x_iload_n hC dX9_sendBundle_231 (lm 1 rfl) ?_
  refine x_iconst hC dX9_sendBundle_232 ic_0 ?_
  obtain ⟨ho, hp⟩ := hp
  refine s_zast (y := 0) hC dX9_sendBundle_233 ((fr_9_18 ty_78).2) ho (by decide) ?_
  refine x_iload_n hC dX9_sendBundle_234 (lm 2 rfl) ?_
  exact x_iret hC hE dX9_sendBundle_235 ⟨_, _, rfl, rfl, hp⟩
set_option maxHeartbeats 4000000 in
theorem t_X9_sendBundle {i1 : Int32} {h : HP} {Q : Int32 → HP → Prop}  (hp : P_X9_sendBundle i1 h Q) : MT yX9_sendBundle cX9_sendBundle 8 (some .int) rm_X9_sendBundle [.ref 78, .int i1] gM SH (emb h) (pI Q) := by
  refine MT.of (by decide +kernel) (Nat.le_of_ble_eq_true rfl) (fun C hC hE => ?_)
  show SW C gM 0 [(0, .ref 78), (1, .int i1)] [] h
  unfold P_X9_sendBundle at hp
  refine x_aload_n hC dX9_sendBundle_0 (lm 0 rfl) ?_
  refine s_getI hC dX9_sendBundle_1 fk_9_189 ty_78 ?_
  refine x_istore_n (lv' := [(2, .int (h.1 78 42)), (0, .ref 78), (1, .int i1)]) hC dX9_sendBundle_4 (by decide) rfl ?_
  refine x_aload_n hC dX9_sendBundle_5 (lm 1 rfl) ?_
  refine x_iload_n hC dX9_sendBundle_6 (lm 2 rfl) ?_
  refine x_aload_n hC dX9_sendBundle_7 (lm 1 rfl) ?_
  refine s_getI hC dX9_sendBundle_8 fk_9_202 ty_78 ?_
  refine s_callVv (avs := [.int i1, .int (h.1 78 44)]) (st := []) hC dX9_sendBundle_11 ml_9_209 mi_X9_give ty_78 rfl (t_X9_give  hp) (Nat.le_of_ble_eq_true rfl) ⟨rfl, rfl⟩ ⟨Nat.le_of_ble_eq_true rfl, Nat.le_of_ble_eq_true rfl⟩ (fun h_11 hp => ?_)
  refine x_aload_n hC dX9_sendBundle_14 (lm 1 rfl) ?_
  refine x_iconst hC dX9_sendBundle_15 ic_2 ?_
  refine x_iload_n hC dX9_sendBundle_16 (lm 2 rfl) ?_
  refine x_iconst hC dX9_sendBundle_17 ic_m1 ?_
  refine x_iconst hC dX9_sendBundle_18 ic_m1 ?_
  refine x_iconst hC dX9_sendBundle_19 ic_m1 ?_
  refine s_callVi (avs := [.int 2, .int i1, .int (-1), .int (-1), .int (-1)]) (st := []) hC dX9_sendBundle_20 ml_9_178 mi_X9_send ty_78 rfl (t_X9_send  hp) (Nat.le_of_ble_eq_true rfl) ⟨rfl, rfl⟩ ⟨Nat.le_of_ble_eq_true rfl, Nat.le_of_ble_eq_true rfl⟩ (fun v_20 h_20 hp => ?_)
  refine x_istore_n (lv' := [(3, .int v_20), (2, .int (h.1 78 42)), (0, .ref 78), (1, .int i1)]) hC dX9_sendBundle_23 (by decide) rfl ?_
  refine x_iconst hC dX9_sendBundle_24 ic_0 ?_
  refine x_istore (lv' := [(4, .int 0), (3, .int v_20), (2, .int (h.1 78 42)), (0, .ref 78), (1, .int i1)]) hC dX9_sendBundle_25 (by decide) rfl ?_
  refine x_subk (lv' := [(0, .ref 78), (1, .int i1), (2, .int (h.1 78 42)), (3, .int v_20), (4, .int 0)]) [3, 4, 2, 1, 0] rfl ?_
  refine hp (fun i4_27 h_27 => SW C gM 27 [(0, .ref 78), (1, .int i1), (2, .int (h.1 78 42)), (3, .int v_20), (4, .int i4_27)] [] h_27) (fun i4_27 h_27 hp => ?_)
  refine x_iload hC dX9_sendBundle_27 (lm 4 rfl) ?_
  refine x_aload_n hC dX9_sendBundle_29 (lm 0 rfl) ?_
  refine s_getR (r := 86) hC dX9_sendBundle_30 fk_9_31 ty_78 (fr_9_14 ty_78).1 ?_
  refine x_iload_n hC dX9_sendBundle_33 (lm 1 rfl) ?_
  obtain ⟨ho, hp⟩ := hp
  refine s_iald hC dX9_sendBundle_34 ((fr_9_14 ty_78).2) ho ?_
  refine x_aload_n hC dX9_sendBundle_35 (lm 0 rfl) ?_
  refine s_getR (r := 87) hC dX9_sendBundle_36 fk_9_34 ty_78 (fr_9_15 ty_78).1 ?_
  refine x_iload_n hC dX9_sendBundle_39 (lm 1 rfl) ?_
  obtain ⟨ho, hp⟩ := hp
  refine s_iald hC dX9_sendBundle_40 ((fr_9_15 ty_78).2) ho ?_
  refine s_callSi (avs := [.int (h_27.1 86 i1.toNatClampNeg), .int (h_27.1 87 i1.toNatClampNeg)]) (st := [.int i4_27]) hC dX9_sendBundle_41 ml_9_119 ms_X9_ahead rfl (t_X9_ahead  hp) (Nat.le_of_ble_eq_true rfl) ⟨rfl, rfl⟩ ⟨Nat.le_of_ble_eq_true rfl, Nat.le_of_ble_eq_true rfl⟩ (fun v_41 h_41 hp => ?_)
  refine x_icmp_ge (tgt := 210) hC dX9_sendBundle_44 (by decide) (fun hc => ?_) (fun hc => ?_)
  · have hp := hp.1 hc
    exact x_subk [0, 1, 2] rfl (l_X9_sendBundle_j210 hC hE   hp)
  · have hp := hp.2 hc
    refine x_aload_n hC dX9_sendBundle_47 (lm 0 rfl) ?_
    refine s_getR (r := 111) hC dX9_sendBundle_48 fk_9_107 ty_78 (fr_9_40 ty_78).1 ?_
    refine x_iload_n hC dX9_sendBundle_51 (lm 3 rfl) ?_
    refine x_bipush hC dX9_sendBundle_52 bp_7 ?_
    refine x_iadd hC dX9_sendBundle_54 ?_
    obtain ⟨ho, hp⟩ := hp
    refine s_iald hC dX9_sendBundle_55 ((fr_9_40 ty_78).2) ho ?_
    refine x_iload_n hC dX9_sendBundle_56 (lm 2 rfl) ?_
    refine x_icmp_ge (tgt := 210) hC dX9_sendBundle_57 (by decide) (fun hc => ?_) (fun hc => ?_)
    · have hp := hp.1 hc
      exact x_subk [0, 1, 2] rfl (l_X9_sendBundle_j210 hC hE   hp)
    · have hp := hp.2 hc
      refine x_aload_n hC dX9_sendBundle_60 (lm 0 rfl) ?_
      refine s_getR (r := 86) hC dX9_sendBundle_61 fk_9_31 ty_78 (fr_9_14 ty_78).1 ?_
      refine x_iload_n hC dX9_sendBundle_64 (lm 1 rfl) ?_
      obtain ⟨ho, hp⟩ := hp
      refine s_iald hC dX9_sendBundle_65 ((fr_9_14 ty_78).2) ho ?_
      refine x_iload hC dX9_sendBundle_66 (lm 4 rfl) ?_
      refine x_iadd hC dX9_sendBundle_68 ?_
      refine x_bipush hC dX9_sendBundle_69 bp_64 ?_
      refine x_irem hC dX9_sendBundle_71 (by decide) ?_
      refine x_istore (lv' := [(5, .int (((h_41.1 86 i1.toNatClampNeg) + i4_27) - ((h_41.1 86 i1.toNatClampNeg) + i4_27) / 64 * 64)), (0, .ref 78), (1, .int i1), (2, .int (h.1 78 42)), (3, .int v_20), (4, .int i4_27)]) hC dX9_sendBundle_72 (by decide) rfl ?_
      refine x_bipush hC dX9_sendBundle_74 bp_64 ?_
      refine x_iload_n hC dX9_sendBundle_76 (lm 2 rfl) ?_
      refine x_imul hC dX9_sendBundle_77 ?_
      refine x_iload hC dX9_sendBundle_78 (lm 0 rfl) ?_
      refine x_iadd hC dX9_sendBundle_80 ?_
      refine x_istore (lv' := [(6, .int ((64 * i1) + (((h_41.1 86 i1.toNatClampNeg) + i4_27) - ((h_41.1 86 i1.toNatClampNeg) + i4_27) / 64 * 64))), (5, .int (((h_41.1 86 i1.toNatClampNeg) + i4_27) - ((h_41.1 86 i1.toNatClampNeg) + i4_27) / 64 * 64)), (0, .ref 78), (1, .int i1), (2, .int (h.1 78 42)), (3, .int v_20), (4, .int i4_27)]) hC dX9_sendBundle_81 (by decide) rfl ?_
      refine x_aload_n hC dX9_sendBundle_83 (lm 2 rfl) ?_
      refine s_getR (r := 98) hC dX9_sendBundle_84 fk_9_68 ty_78 (fr_9_26 ty_78).1 ?_
      refine x_iload hC dX9_sendBundle_87 (lm 0 rfl) ?_
      obtain ⟨ho, hp⟩ := hp
      refine s_zald hC dX9_sendBundle_89 ((fr_9_26 ty_78).2) ho ?_
      refine x_if_ne (tgt := 204) hC dX9_sendBundle_90 (by decide) (fun hc => ?_) (fun hc => ?_)
      · have hp := hp.1 hc
        refine x_iinc (u := i4_27 + 1) (lv' := [(4, .int (i4_27 + 1)), (6, .int ((64 * i1) + (((h_41.1 86 i1.toNatClampNeg) + i4_27) - ((h_41.1 86 i1.toNatClampNeg) + i4_27) / 64 * 64))), (5, .int (((h_41.1 86 i1.toNatClampNeg) + i4_27) - ((h_41.1 86 i1.toNatClampNeg) + i4_27) / 64 * 64)), (0, .ref 78), (1, .int i1), (2, .int (h.1 78 42)), (3, .int v_20)]) hC dX9_sendBundle_204 (lm 6 rfl) (congrArg _ ic_1) (by decide) rfl ?_
        refine x_goto (tgt := 27) hC dX9_sendBundle_207 (by decide) ?_
        exact x_subk [3, 4, 5, 6, 0] rfl hp
      · have hp := hp.2 hc
        refine x_iconst hC dX9_sendBundle_93 ic_4 ?_
        refine x_iload_n hC dX9_sendBundle_94 (lm 5 rfl) ?_
        refine x_imul hC dX9_sendBundle_95 ?_
        refine x_iconst hC dX9_sendBundle_96 ic_4 ?_
        refine x_aload_n hC dX9_sendBundle_97 (lm 2 rfl) ?_
        refine s_getR (r := 111) hC dX9_sendBundle_98 fk_9_107 ty_78 (fr_9_40 ty_78).1 ?_
        refine x_iload_n hC dX9_sendBundle_101 (lm 5 rfl) ?_
        refine x_bipush hC dX9_sendBundle_102 bp_7 ?_
        refine x_iadd hC dX9_sendBundle_104 ?_
        obtain ⟨ho, hp⟩ := hp
        refine s_iald hC dX9_sendBundle_105 ((fr_9_40 ty_78).2) ho ?_
        refine x_imul hC dX9_sendBundle_106 ?_
        refine x_iadd hC dX9_sendBundle_107 ?_
        refine x_istore (lv' := [(7, .int ((4 * v_20) + (4 * (h_41.1 111 (v_20 + 7).toNatClampNeg)))), (6, .int ((64 * i1) + (((h_41.1 86 i1.toNatClampNeg) + i4_27) - ((h_41.1 86 i1.toNatClampNeg) + i4_27) / 64 * 64))), (5, .int (((h_41.1 86 i1.toNatClampNeg) + i4_27) - ((h_41.1 86 i1.toNatClampNeg) + i4_27) / 64 * 64)), (0, .ref 78), (1, .int i1), (2, .int (h.1 78 42)), (3, .int v_20), (4, .int i4_27)]) hC dX9_sendBundle_108 (by decide) rfl ?_
        refine x_aload_n hC dX9_sendBundle_110 (lm 3 rfl) ?_
        refine s_getR (r := 112) hC dX9_sendBundle_111 fk_9_110 ty_78 (fr_9_41 ty_78).1 ?_
        refine x_iload hC dX9_sendBundle_114 (lm 0 rfl) ?_
        refine x_iload hC dX9_sendBundle_116 (lm 2 rfl) ?_
        obtain ⟨ho, hp⟩ := hp
        refine s_iast hC dX9_sendBundle_118 ((fr_9_41 ty_78).2) ho ?_
        refine x_aload_n hC dX9_sendBundle_119 (lm 3 rfl) ?_
        refine s_getR (r := 112) hC dX9_sendBundle_120 fk_9_110 ty_78 (fr_9_41 ty_78).1 ?_
        refine x_iload hC dX9_sendBundle_123 (lm 0 rfl) ?_
        refine x_iconst hC dX9_sendBundle_125 ic_1 ?_
        refine x_iadd hC dX9_sendBundle_126 ?_
        refine x_aload_n hC dX9_sendBundle_127 (lm 3 rfl) ?_
        refine s_getR (r := 95) hC dX9_sendBundle_128 fk_9_59 ty_78 (fr_9_23 ty_78).1 ?_
        refine x_iload hC dX9_sendBundle_131 (lm 1 rfl) ?_
        obtain ⟨ho, hp⟩ := hp
        refine s_iald hC dX9_sendBundle_133 ((fr_9_23 ty_78).2) ho ?_
        obtain ⟨ho, hp⟩ := hp
        refine s_iast hC dX9_sendBundle_134 ((fr_9_41 ty_78).2) ho ?_
        refine x_aload_n hC dX9_sendBundle_135 (lm 3 rfl) ?_
        refine s_getR (r := 112) hC dX9_sendBundle_136 fk_9_110 ty_78 (fr_9_41 ty_78).1 ?_
        refine x_iload hC dX9_sendBundle_139 (lm 0 rfl) ?_
        refine x_iconst hC dX9_sendBundle_141 ic_2 ?_
        refine x_iadd hC dX9_sendBundle_142 ?_
        refine x_aload_n hC dX9_sendBundle_143 (lm 3 rfl) ?_
        refine s_getR (r := 96) hC dX9_sendBundle_144 fk_9_62 ty_78 (fr_9_24 ty_78).1 ?_
        refine x_iload hC dX9_sendBundle_147 (lm 1 rfl) ?_
        obtain ⟨ho, hp⟩ := hp
        refine s_iald hC dX9_sendBundle_149 ((fr_9_24 ty_78).2) ho ?_
        obtain ⟨ho, hp⟩ := hp
        refine s_iast hC dX9_sendBundle_150 ((fr_9_41 ty_78).2) ho ?_
        refine x_aload_n hC dX9_sendBundle_151 (lm 3 rfl) ?_
        refine s_getR (r := 112) hC dX9_sendBundle_152 fk_9_110 ty_78 (fr_9_41 ty_78).1 ?_
        refine x_iload hC dX9_sendBundle_155 (lm 0 rfl) ?_
        refine x_iconst hC dX9_sendBundle_157 ic_3 ?_
        refine x_iadd hC dX9_sendBundle_158 ?_
        refine x_iload_n hC dX9_sendBundle_159 (lm 4 rfl) ?_
        refine x_iload hC dX9_sendBundle_160 (lm 2 rfl) ?_
        refine x_aload_n hC dX9_sendBundle_162 (lm 3 rfl) ?_
        refine s_getR (r := 95) hC dX9_sendBundle_163 fk_9_59 ty_78 (fr_9_23 ty_78).1 ?_
        refine x_iload hC dX9_sendBundle_166 (lm 1 rfl) ?_
        obtain ⟨ho, hp⟩ := hp
        refine s_iald hC dX9_sendBundle_168 ((fr_9_23 ty_78).2) ho ?_
        refine x_aload_n hC dX9_sendBundle_169 (lm 3 rfl) ?_
        refine s_getR (r := 96) hC dX9_sendBundle_170 fk_9_62 ty_78 (fr_9_24 ty_78).1 ?_
        refine x_iload hC dX9_sendBundle_173 (lm 1 rfl) ?_
        obtain ⟨ho, hp⟩ := hp
        refine s_iald hC dX9_sendBundle_175 ((fr_9_24 ty_78).2) ho ?_
        refine s_callSi (avs := [.int i1, .int (((h_41.1 86 i1.toNatClampNeg) + i4_27) - ((h_41.1 86 i1.toNatClampNeg) + i4_27) / 64 * 64), .int ((si (si (si h_41 112 ((4 * v_20) + (4 * (h_41.1 111 (v_20 + 7).toNatClampNeg))).toNatClampNeg (((h_41.1 86 i1.toNatClampNeg) + i4_27) - ((h_41.1 86 i1.toNatClampNeg) + i4_27) / 64 * 64)) 112 (((4 * v_20) + (4 * (h_41.1 111 (v_20 + 7).toNatClampNeg))) + 1).toNatClampNeg ((si h_41 112 ((4 * v_20) + (4 * (h_41.1 111 (v_20 + 7).toNatClampNeg))).toNatClampNeg (((h_41.1 86 i1.toNatClampNeg) + i4_27) - ((h_41.1 86 i1.toNatClampNeg) + i4_27) / 64 * 64)).1 95 ((64 * i1) + (((h_41.1 86 i1.toNatClampNeg) + i4_27) - ((h_41.1 86 i1.toNatClampNeg) + i4_27) / 64 * 64)).toNatClampNeg)) 112 (((4 * v_20) + (4 * (h_41.1 111 (v_20 + 7).toNatClampNeg))) + 2).toNatClampNeg ((si (si h_41 112 ((4 * v_20) + (4 * (h_41.1 111 (v_20 + 7).toNatClampNeg))).toNatClampNeg (((h_41.1 86 i1.toNatClampNeg) + i4_27) - ((h_41.1 86 i1.toNatClampNeg) + i4_27) / 64 * 64)) 112 (((4 * v_20) + (4 * (h_41.1 111 (v_20 + 7).toNatClampNeg))) + 1).toNatClampNeg ((si h_41 112 ((4 * v_20) + (4 * (h_41.1 111 (v_20 + 7).toNatClampNeg))).toNatClampNeg (((h_41.1 86 i1.toNatClampNeg) + i4_27) - ((h_41.1 86 i1.toNatClampNeg) + i4_27) / 64 * 64)).1 95 ((64 * i1) + (((h_41.1 86 i1.toNatClampNeg) + i4_27) - ((h_41.1 86 i1.toNatClampNeg) + i4_27) / 64 * 64)).toNatClampNeg)).1 96 ((64 * i1) + (((h_41.1 86 i1.toNatClampNeg) + i4_27) - ((h_41.1 86 i1.toNatClampNeg) + i4_27) / 64 * 64)).toNatClampNeg)).1 95 ((64 * i1) + (((h_41.1 86 i1.toNatClampNeg) + i4_27) - ((h_41.1 86 i1.toNatClampNeg) + i4_27) / 64 * 64)).toNatClampNeg), .int ((si (si (si h_41 112 ((4 * v_20) + (4 * (h_41.1 111 (v_20 + 7).toNatClampNeg))).toNatClampNeg (((h_41.1 86 i1.toNatClampNeg) + i4_27) - ((h_41.1 86 i1.toNatClampNeg) + i4_27) / 64 * 64)) 112 (((4 * v_20) + (4 * (h_41.1 111 (v_20 + 7).toNatClampNeg))) + 1).toNatClampNeg ((si h_41 112 ((4 * v_20) + (4 * (h_41.1 111 (v_20 + 7).toNatClampNeg))).toNatClampNeg (((h_41.1 86 i1.toNatClampNeg) + i4_27) - ((h_41.1 86 i1.toNatClampNeg) + i4_27) / 64 * 64)).1 95 ((64 * i1) + (((h_41.1 86 i1.toNatClampNeg) + i4_27) - ((h_41.1 86 i1.toNatClampNeg) + i4_27) / 64 * 64)).toNatClampNeg)) 112 (((4 * v_20) + (4 * (h_41.1 111 (v_20 + 7).toNatClampNeg))) + 2).toNatClampNeg ((si (si h_41 112 ((4 * v_20) + (4 * (h_41.1 111 (v_20 + 7).toNatClampNeg))).toNatClampNeg (((h_41.1 86 i1.toNatClampNeg) + i4_27) - ((h_41.1 86 i1.toNatClampNeg) + i4_27) / 64 * 64)) 112 (((4 * v_20) + (4 * (h_41.1 111 (v_20 + 7).toNatClampNeg))) + 1).toNatClampNeg ((si h_41 112 ((4 * v_20) + (4 * (h_41.1 111 (v_20 + 7).toNatClampNeg))).toNatClampNeg (((h_41.1 86 i1.toNatClampNeg) + i4_27) - ((h_41.1 86 i1.toNatClampNeg) + i4_27) / 64 * 64)).1 95 ((64 * i1) + (((h_41.1 86 i1.toNatClampNeg) + i4_27) - ((h_41.1 86 i1.toNatClampNeg) + i4_27) / 64 * 64)).toNatClampNeg)).1 96 ((64 * i1) + (((h_41.1 86 i1.toNatClampNeg) + i4_27) - ((h_41.1 86 i1.toNatClampNeg) + i4_27) / 64 * 64)).toNatClampNeg)).1 96 ((64 * i1) + (((h_41.1 86 i1.toNatClampNeg) + i4_27) - ((h_41.1 86 i1.toNatClampNeg) + i4_27) / 64 * 64)).toNatClampNeg)]) (st := [.int (((4 * v_20) + (4 * (h_41.1 111 (v_20 + 7).toNatClampNeg))) + 3), .ref 112]) hC dX9_sendBundle_176 ml_9_213 ms_X9_checkOf rfl (t_X9_checkOf  hp) (Nat.le_of_ble_eq_true rfl) ⟨rfl, rfl⟩ ⟨Nat.le_of_ble_eq_true rfl, Nat.le_of_ble_eq_true rfl⟩ (fun v_176 h_176 hp => ?_)
        obtain ⟨ho, hp⟩ := hp
        refine s_iast hC dX9_sendBundle_179 ((fr_9_41 ty_78).2) ho ?_
        refine x_aload_n hC dX9_sendBundle_180 (lm 3 rfl) ?_
        refine s_getR (r := 97) hC dX9_sendBundle_181 fk_9_65 ty_78 (fr_9_25 ty_78).1 ?_
        refine x_iload hC dX9_sendBundle_184 (lm 1 rfl) ?_
        refine x_dup2 hC dX9_sendBundle_186 rfl rfl ?_
        obtain ⟨ho, hp⟩ := hp
        refine s_iald hC dX9_sendBundle_187 ((fr_9_25 ty_78).2) ho ?_
        refine x_iconst hC dX9_sendBundle_188 ic_1 ?_
        refine x_iadd hC dX9_sendBundle_189 ?_
        obtain ⟨ho, hp⟩ := hp
        refine s_iast hC dX9_sendBundle_190 ((fr_9_25 ty_78).2) ho ?_
        refine x_aload_n hC dX9_sendBundle_191 (lm 3 rfl) ?_
        refine s_getR (r := 111) hC dX9_sendBundle_192 fk_9_107 ty_78 (fr_9_40 ty_78).1 ?_
        refine x_iload_n hC dX9_sendBundle_195 (lm 6 rfl) ?_
        refine x_bipush hC dX9_sendBundle_196 bp_7 ?_
        refine x_iadd hC dX9_sendBundle_198 ?_
        refine x_dup2 hC dX9_sendBundle_199 rfl rfl ?_
        obtain ⟨ho, hp⟩ := hp
        refine s_iald hC dX9_sendBundle_200 ((fr_9_40 ty_78).2) ho ?_
        refine x_iconst hC dX9_sendBundle_201 ic_1 ?_
        refine x_iadd hC dX9_sendBundle_202 ?_
        obtain ⟨ho, hp⟩ := hp
        refine s_iast hC dX9_sendBundle_203 ((fr_9_40 ty_78).2) ho ?_
        refine x_iinc (u := i4_27 + 1) (lv' := [(4, .int (i4_27 + 1)), (7, .int ((4 * v_20) + (4 * (h_41.1 111 (v_20 + 7).toNatClampNeg)))), (6, .int ((64 * i1) + (((h_41.1 86 i1.toNatClampNeg) + i4_27) - ((h_41.1 86 i1.toNatClampNeg) + i4_27) / 64 * 64))), (5, .int (((h_41.1 86 i1.toNatClampNeg) + i4_27) - ((h_41.1 86 i1.toNatClampNeg) + i4_27) / 64 * 64)), (0, .ref 78), (1, .int i1), (2, .int (h.1 78 42)), (3, .int v_20)]) hC dX9_sendBundle_204 (lm 7 rfl) (congrArg _ ic_1) (by decide) rfl ?_
        refine x_goto (tgt := 27) hC dX9_sendBundle_207 (by decide) ?_
        exact x_subk [4, 5, 6, 7, 0] rfl hp
