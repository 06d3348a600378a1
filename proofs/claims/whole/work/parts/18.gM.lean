theorem dX9_sendBar_0 : decode cX9_sendBar 0 = .ok (.aload_n 0, 1) := by decide +kernel
theorem dX9_sendBar_1 : decode cX9_sendBar 1 = .ok (.iconst 3, 1) := by decide +kernel
theorem dX9_sendBar_2 : decode cX9_sendBar 2 = .ok (.iload_n 1, 1) := by decide +kernel
theorem dX9_sendBar_3 : decode cX9_sendBar 3 = .ok (.aload_n 0, 1) := by decide +kernel
theorem dX9_sendBar_4 : decode cX9_sendBar 4 = .ok (.getfield 31, 3) := by decide +kernel
theorem dX9_sendBar_7 : decode cX9_sendBar 7 = .ok (.iload_n 1, 1) := by decide +kernel
theorem dX9_sendBar_8 : decode cX9_sendBar 8 = .ok (.iaload, 1) := by decide +kernel
theorem dX9_sendBar_9 : decode cX9_sendBar 9 = .ok (.iconst (-1), 1) := by decide +kernel
theorem dX9_sendBar_10 : decode cX9_sendBar 10 = .ok (.iconst (-1), 1) := by decide +kernel
theorem dX9_sendBar_11 : decode cX9_sendBar 11 = .ok (.invokevirtual 178, 3) := by decide +kernel
theorem dX9_sendBar_14 : decode cX9_sendBar 14 = .ok (.pop, 1) := by decide +kernel
theorem dX9_sendBar_15 : decode cX9_sendBar 15 = .ok (.aload_n 0, 1) := by decide +kernel
theorem dX9_sendBar_16 : decode cX9_sendBar 16 = .ok (.getfield 41, 3) := by decide +kernel
theorem dX9_sendBar_19 : decode cX9_sendBar 19 = .ok (.iload_n 1, 1) := by decide +kernel
theorem dX9_sendBar_20 : decode cX9_sendBar 20 = .ok (.iconst 0, 1) := by decide +kernel
theorem dX9_sendBar_21 : decode cX9_sendBar 21 = .ok (.bastore, 1) := by decide +kernel
theorem dX9_sendBar_22 : decode cX9_sendBar 22 = .ok (.aload_n 0, 1) := by decide +kernel
theorem dX9_sendBar_23 : decode cX9_sendBar 23 = .ok (.getfield 44, 3) := by decide +kernel
theorem dX9_sendBar_26 : decode cX9_sendBar 26 = .ok (.iload_n 1, 1) := by decide +kernel
theorem dX9_sendBar_27 : decode cX9_sendBar 27 = .ok (.iconst 1, 1) := by decide +kernel
theorem dX9_sendBar_28 : decode cX9_sendBar 28 = .ok (.bastore, 1) := by decide +kernel
theorem dX9_sendBar_29 : decode cX9_sendBar 29 = .ok (.aload_n 0, 1) := by decide +kernel
theorem dX9_sendBar_30 : decode cX9_sendBar 30 = .ok (.getfield 37, 3) := by decide +kernel
theorem dX9_sendBar_33 : decode cX9_sendBar 33 = .ok (.iload_n 1, 1) := by decide +kernel
theorem dX9_sendBar_34 : decode cX9_sendBar 34 = .ok (.iconst 1, 1) := by decide +kernel
theorem dX9_sendBar_35 : decode cX9_sendBar 35 = .ok (.bastore, 1) := by decide +kernel
theorem dX9_sendBar_36 : decode cX9_sendBar 36 = .ok (.iconst 0, 1) := by decide +kernel
theorem dX9_sendBar_37 : decode cX9_sendBar 37 = .ok (.ireturn, 1) := by decide +kernel
abbrev rm_X9_sendBar : Room := { frames := 1, cells := 0, slots := 0, locals := 26 }
def P_X9_sendBar (i1 : Int32) (h : HP) (Q : Int32 → HP → Prop) : Prop := (vp_in i1 4) ∧ (P_X9_send 3 i1 (h.1 86 i1.toNatClampNeg) (-1) (-1) h (fun (v_11 : Int32) (h_11 : HP) => (vp_in i1 4) ∧ ((vp_in i1 4) ∧ ((vp_in i1 4) ∧ (Q 0 (si (si (si h_11 89 i1.toNatClampNeg 0) 90 i1.toNatClampNeg 1) 88 i1.toNatClampNeg 1))))))
set_option maxHeartbeats 4000000 in
theorem t_X9_sendBar {i1 : Int32} {h : HP} {Q : Int32 → HP → Prop}  (hp : P_X9_sendBar i1 h Q) : MT yX9_sendBar cX9_sendBar 2 (some .int) rm_X9_sendBar [.ref 78, .int i1] gM SH (emb h) (pI Q) := by
  refine MT.of (by decide +kernel) (Nat.le_of_ble_eq_true rfl) (fun C hC hE => ?_)
  show SW C gM 0 [(0, .ref 78), (1, .int i1)] [] h
  unfold P_X9_sendBar at hp
  refine x_aload_n hC dX9_sendBar_0 (lm 0 rfl) ?_
  refine x_iconst hC dX9_sendBar_1 ic_3 ?_
  refine x_iload_n hC dX9_sendBar_2 (lm 1 rfl) ?_
  refine x_aload_n hC dX9_sendBar_3 (lm 0 rfl) ?_
  refine s_getR (r := 86) hC dX9_sendBar_4 fk_9_31 ty_78 (fr_9_14 ty_78).1 ?_
  refine x_iload_n hC dX9_sendBar_7 (lm 1 rfl) ?_
  obtain ⟨ho, hp⟩ := hp
  refine s_iald hC dX9_sendBar_8 ((fr_9_14 ty_78).2) ho ?_
  refine x_iconst hC dX9_sendBar_9 ic_m1 ?_
  refine x_iconst hC dX9_sendBar_10 ic_m1 ?_
  refine s_callVi (avs := [.int 3, .int i1, .int (h.1 86 i1.toNatClampNeg), .int (-1), .int (-1)]) (st := []) hC dX9_sendBar_11 ml_9_178 mi_X9_send ty_78 rfl (t_X9_send  hp) (Nat.le_of_ble_eq_true rfl) ⟨rfl, rfl⟩ ⟨Nat.le_of_ble_eq_true rfl, Nat.le_of_ble_eq_true rfl⟩ (fun v_11 h_11 hp => ?_)
  refine x_pop hC dX9_sendBar_14 rfl ?_
  refine x_aload_n hC dX9_sendBar_15 (lm 0 rfl) ?_
  refine s_getR (r := 89) hC dX9_sendBar_16 fk_9_41 ty_78 (fr_9_17 ty_78).1 ?_
  refine x_iload_n hC dX9_sendBar_19 (lm 1 rfl) ?_
  refine x_iconst hC dX9_sendBar_20 ic_0 ?_
  obtain ⟨ho, hp⟩ := hp
  refine s_zast (y := 0) hC dX9_sendBar_21 ((fr_9_17 ty_78).2) ho (by decide) ?_
  refine x_aload_n hC dX9_sendBar_22 (lm 0 rfl) ?_
  refine s_getR (r := 90) hC dX9_sendBar_23 fk_9_44 ty_78 (fr_9_18 ty_78).1 ?_
  refine x_iload_n hC dX9_sendBar_26 (lm 1 rfl) ?_
  refine x_iconst hC dX9_sendBar_27 ic_1 ?_
  obtain ⟨ho, hp⟩ := hp
  refine s_zast (y := 1) hC dX9_sendBar_28 ((fr_9_18 ty_78).2) ho (by decide) ?_
  refine x_aload_n hC dX9_sendBar_29 (lm 0 rfl) ?_
  refine s_getR (r := 88) hC dX9_sendBar_30 fk_9_37 ty_78 (fr_9_16 ty_78).1 ?_
  refine x_iload_n hC dX9_sendBar_33 (lm 1 rfl) ?_
  refine x_iconst hC dX9_sendBar_34 ic_1 ?_
  obtain ⟨ho, hp⟩ := hp
  refine s_zast (y := 1) hC dX9_sendBar_35 ((fr_9_16 ty_78).2) ho (by decide) ?_
  refine x_iconst hC dX9_sendBar_36 ic_0 ?_
  exact x_iret hC hE dX9_sendBar_37 ⟨_, _, rfl, rfl, hp⟩
theorem dX9_bundle_0 : decode cX9_bundle 0 = .ok (.aload_n 0, 1) := by decide +kernel
theorem dX9_bundle_1 : decode cX9_bundle 1 = .ok (.iload_n 1, 1) := by decide +kernel
theorem dX9_bundle_2 : decode cX9_bundle 2 = .ok (.invokevirtual 171, 3) := by decide +kernel
theorem dX9_bundle_5 : decode cX9_bundle 5 = .ok (.ifCond .ne 6, 3) := by decide +kernel
theorem dX9_bundle_8 : decode cX9_bundle 8 = .ok (.bipush (-101), 2) := by decide +kernel
theorem dX9_bundle_10 : decode cX9_bundle 10 = .ok (.ireturn, 1) := by decide +kernel
theorem dX9_bundle_11 : decode cX9_bundle 11 = .ok (.aload_n 0, 1) := by decide +kernel
theorem dX9_bundle_12 : decode cX9_bundle 12 = .ok (.iload_n 1, 1) := by decide +kernel
theorem dX9_bundle_13 : decode cX9_bundle 13 = .ok (.invokevirtual 182, 3) := by decide +kernel
theorem dX9_bundle_16 : decode cX9_bundle 16 = .ok (.ifCond .eq 19, 3) := by decide +kernel
theorem dX9_bundle_19 : decode cX9_bundle 19 = .ok (.aload_n 0, 1) := by decide +kernel
theorem dX9_bundle_20 : decode cX9_bundle 20 = .ok (.getfield 37, 3) := by decide +kernel
theorem dX9_bundle_23 : decode cX9_bundle 23 = .ok (.iload_n 1, 1) := by decide +kernel
theorem dX9_bundle_24 : decode cX9_bundle 24 = .ok (.baload, 1) := by decide +kernel
theorem dX9_bundle_25 : decode cX9_bundle 25 = .ok (.ifCond .ne 10, 3) := by decide +kernel
theorem dX9_bundle_28 : decode cX9_bundle 28 = .ok (.aload_n 0, 1) := by decide +kernel
theorem dX9_bundle_29 : decode cX9_bundle 29 = .ok (.invokevirtual 195, 3) := by decide +kernel
theorem dX9_bundle_32 : decode cX9_bundle 32 = .ok (.ifCond .ne 6, 3) := by decide +kernel
theorem dX9_bundle_35 : decode cX9_bundle 35 = .ok (.bipush (-103), 2) := by decide +kernel
theorem dX9_bundle_37 : decode cX9_bundle 37 = .ok (.ireturn, 1) := by decide +kernel
theorem dX9_bundle_38 : decode cX9_bundle 38 = .ok (.aload_n 0, 1) := by decide +kernel
theorem dX9_bundle_39 : decode cX9_bundle 39 = .ok (.getfield 41, 3) := by decide +kernel
theorem dX9_bundle_42 : decode cX9_bundle 42 = .ok (.iload_n 1, 1) := by decide +kernel
theorem dX9_bundle_43 : decode cX9_bundle 43 = .ok (.baload, 1) := by decide +kernel
theorem dX9_bundle_44 : decode cX9_bundle 44 = .ok (.ifCond .eq 9, 3) := by decide +kernel
theorem dX9_bundle_47 : decode cX9_bundle 47 = .ok (.aload_n 0, 1) := by decide +kernel
theorem dX9_bundle_48 : decode cX9_bundle 48 = .ok (.iload_n 1, 1) := by decide +kernel
theorem dX9_bundle_49 : decode cX9_bundle 49 = .ok (.invokevirtual 217, 3) := by decide +kernel
theorem dX9_bundle_52 : decode cX9_bundle 52 = .ok (.ireturn, 1) := by decide +kernel
theorem dX9_bundle_53 : decode cX9_bundle 53 = .ok (.aload_n 0, 1) := by decide +kernel
theorem dX9_bundle_54 : decode cX9_bundle 54 = .ok (.iload_n 1, 1) := by decide +kernel
theorem dX9_bundle_55 : decode cX9_bundle 55 = .ok (.invokevirtual 220, 3) := by decide +kernel
theorem dX9_bundle_58 : decode cX9_bundle 58 = .ok (.aload_n 0, 1) := by decide +kernel
theorem dX9_bundle_59 : decode cX9_bundle 59 = .ok (.getfield 189, 3) := by decide +kernel
theorem dX9_bundle_62 : decode cX9_bundle 62 = .ok (.ifCond .ne 8, 3) := by decide +kernel
theorem dX9_bundle_65 : decode cX9_bundle 65 = .ok (.bipush (-103), 2) := by decide +kernel
theorem dX9_bundle_67 : decode cX9_bundle 67 = .ok (.goto 8, 3) := by decide +kernel
theorem dX9_bundle_70 : decode cX9_bundle 70 = .ok (.aload_n 0, 1) := by decide +kernel
theorem dX9_bundle_71 : decode cX9_bundle 71 = .ok (.iload_n 1, 1) := by decide +kernel
theorem dX9_bundle_72 : decode cX9_bundle 72 = .ok (.invokevirtual 223, 3) := by decide +kernel
theorem dX9_bundle_75 : decode cX9_bundle 75 = .ok (.ireturn, 1) := by decide +kernel
abbrev rm_X9_bundle : Room := { frames := 4, cells := 0, slots := 0, locals := 88 }
def P_X9_bundle (i1 : Int32) (h : HP) (Q : Int32 → HP → Prop) : Prop := P_X9_isClass i1 h (fun (v_2 : Int32) (h_2 : HP) => ((¬ v_2 = 0) → (P_X9_isOpen i1 h_2 (fun (v_13 : Int32) (h_13 : HP) => ((v_13 = 0) → (Q (-103) h_13)) ∧ ((¬ v_13 = 0) → ((vp_in i1 4) ∧ (((¬ (h_13.1 88 i1.toNatClampNeg) = 0) → (Q (-103) h_13)) ∧ (((h_13.1 88 i1.toNatClampNeg) = 0) → (P_X9_left h_13 (fun (v_29 : Int32) (h_29 : HP) => ((¬ v_29 = 0) → ((vp_in i1 4) ∧ ((((h_29.1 89 i1.toNatClampNeg) = 0) → (P_X9_plan i1 h_29 (fun (h_55 : HP) => ((¬ (h_55.1 78 42) = 0) → (P_X9_sendBundle i1 h_55 (fun (v_72 : Int32) (h_72 : HP) => Q v_72 h_72))) ∧ (((h_55.1 78 42) = 0) → (Q (-103) h_55))))) ∧ ((¬ (h_29.1 89 i1.toNatClampNeg) = 0) → (P_X9_sendBar i1 h_29 (fun (v_49 : Int32) (h_49 : HP) => Q v_49 h_49)))))) ∧ ((v_29 = 0) → (Q (-103) h_29))))))))))) ∧ ((v_2 = 0) → (Q (-101) h_2)))
set_option maxHeartbeats 4000000 in
theorem t_X9_bundle {i1 : Int32} {h : HP} {Q : Int32 → HP → Prop}  (hp : P_X9_bundle i1 h Q) : MT yX9_bundle cX9_bundle 2 (some .int) rm_X9_bundle [.ref 78, .int i1] gM SH (emb h) (pI Q) := by
  refine MT.of (by decide +kernel) (Nat.le_of_ble_eq_true rfl) (fun C hC hE => ?_)
  show SW C gM 0 [(0, .ref 78), (1, .int i1)] [] h
  unfold P_X9_bundle at hp
  refine x_aload_n hC dX9_bundle_0 (lm 0 rfl) ?_
  refine x_iload_n hC dX9_bundle_1 (lm 1 rfl) ?_
  refine s_callVi (avs := [.int i1]) (st := []) hC dX9_bundle_2 ml_9_171 mi_X9_isClass ty_78 rfl (t_X9_isClass  hp) (Nat.le_of_ble_eq_true rfl) ⟨rfl, rfl⟩ ⟨Nat.le_of_ble_eq_true rfl, Nat.le_of_ble_eq_true rfl⟩ (fun v_2 h_2 hp => ?_)
  refine x_if_ne (tgt := 11) hC dX9_bundle_5 (by decide) (fun hc => ?_) (fun hc => ?_)
  · have hp := hp.1 hc
    refine x_aload_n hC dX9_bundle_11 (lm 0 rfl) ?_
    refine x_iload_n hC dX9_bundle_12 (lm 1 rfl) ?_
    refine s_callVi (avs := [.int i1]) (st := []) hC dX9_bundle_13 ml_9_182 mi_X9_isOpen ty_78 rfl (t_X9_isOpen  hp) (Nat.le_of_ble_eq_true rfl) ⟨rfl, rfl⟩ ⟨Nat.le_of_ble_eq_true rfl, Nat.le_of_ble_eq_true rfl⟩ (fun v_13 h_13 hp => ?_)
    refine x_if_eq (tgt := 35) hC dX9_bundle_16 (by decide) (fun hc => ?_) (fun hc => ?_)
    · have hp := hp.1 hc
      refine x_bipush hC dX9_bundle_35 bp_m103 ?_
      exact x_iret hC hE dX9_bundle_37 ⟨_, _, rfl, rfl, hp⟩
    · have hp := hp.2 hc
      refine x_aload_n hC dX9_bundle_19 (lm 0 rfl) ?_
      refine s_getR (r := 88) hC dX9_bundle_20 fk_9_37 ty_78 (fr_9_16 ty_78).1 ?_
      refine x_iload_n hC dX9_bundle_23 (lm 1 rfl) ?_
      obtain ⟨ho, hp⟩ := hp
      refine s_zald hC dX9_bundle_24 ((fr_9_16 ty_78).2) ho ?_
      refine x_if_ne (tgt := 35) hC dX9_bundle_25 (by decide) (fun hc => ?_) (fun hc => ?_)
      · have hp := hp.1 hc
        refine x_bipush hC dX9_bundle_35 bp_m103 ?_
        exact x_iret hC hE dX9_bundle_37 ⟨_, _, rfl, rfl, hp⟩
      · have hp := hp.2 hc
        refine x_aload_n hC dX9_bundle_28 (lm 0 rfl) ?_
        refine s_callVi (avs := []) (st := []) hC dX9_bundle_29 ml_9_195 mi_X9_left ty_78 rfl (t_X9_left  hp) (Nat.le_of_ble_eq_true rfl) ⟨rfl, rfl⟩ ⟨Nat.le_of_ble_eq_true rfl, Nat.le_of_ble_eq_true rfl⟩ (fun v_29 h_29 hp => ?_)
        refine x_if_ne (tgt := 38) hC dX9_bundle_32 (by decide) (fun hc => ?_) (fun hc => ?_)
        · have hp := hp.1 hc
          refine x_aload_n hC dX9_bundle_38 (lm 0 rfl) ?_
          refine s_getR (r := 89) hC dX9_bundle_39 fk_9_41 ty_78 (fr_9_17 ty_78).1 ?_
          refine x_iload_n hC dX9_bundle_42 (lm 1 rfl) ?_
          obtain ⟨ho, hp⟩ := hp
          refine s_zald hC dX9_bundle_43 ((fr_9_17 ty_78).2) ho ?_
          refine x_if_eq (tgt := 53) hC dX9_bundle_44 (by decide) (fun hc => ?_) (fun hc => ?_)
          · have hp := hp.1 hc
            refine x_aload_n hC dX9_bundle_53 (lm 0 rfl) ?_
            refine x_iload_n hC dX9_bundle_54 (lm 1 rfl) ?_
            refine s_callVv (avs := [.int i1]) (st := []) hC dX9_bundle_55 ml_9_220 mi_X9_plan ty_78 rfl (t_X9_plan  hp) (Nat.le_of_ble_eq_true rfl) ⟨rfl, rfl⟩ ⟨Nat.le_of_ble_eq_true rfl, Nat.le_of_ble_eq_true rfl⟩ (fun h_55 hp => ?_)
            refine x_aload_n hC dX9_bundle_58 (lm 0 rfl) ?_
            refine s_getI hC dX9_bundle_59 fk_9_189 ty_78 ?_
            refine x_if_ne (tgt := 70) hC dX9_bundle_62 (by decide) (fun hc => ?_) (fun hc => ?_)
            · have hp := hp.1 hc
              refine x_aload_n hC dX9_bundle_70 (lm 0 rfl) ?_
              refine x_iload_n hC dX9_bundle_71 (lm 1 rfl) ?_
              refine s_callVi (avs := [.int i1]) (st := []) hC dX9_bundle_72 ml_9_223 mi_X9_sendBundle ty_78 rfl (t_X9_sendBundle  hp) (Nat.le_of_ble_eq_true rfl) ⟨rfl, rfl⟩ ⟨Nat.le_of_ble_eq_true rfl, Nat.le_of_ble_eq_true rfl⟩ (fun v_72 h_72 hp => ?_)
              exact x_iret hC hE dX9_bundle_75 ⟨_, _, rfl, rfl, hp⟩
            · have hp := hp.2 hc
              refine x_bipush hC dX9_bundle_65 bp_m103 ?_
              refine x_goto (tgt := 75) hC dX9_bundle_67 (by decide) ?_
              exact x_iret hC hE dX9_bundle_75 ⟨_, _, rfl, rfl, hp⟩
          · have hp := hp.2 hc
            refine x_aload_n hC dX9_bundle_47 (lm 0 rfl) ?_
            refine x_iload_n hC dX9_bundle_48 (lm 1 rfl) ?_
            refine s_callVi (avs := [.int i1]) (st := []) hC dX9_bundle_49 ml_9_217 mi_X9_sendBar ty_78 rfl (t_X9_sendBar  hp) (Nat.le_of_ble_eq_true rfl) ⟨rfl, rfl⟩ ⟨Nat.le_of_ble_eq_true rfl, Nat.le_of_ble_eq_true rfl⟩ (fun v_49 h_49 hp => ?_)
            exact x_iret hC hE dX9_bundle_52 ⟨_, _, rfl, rfl, hp⟩
        · have hp := hp.2 hc
          refine x_bipush hC dX9_bundle_35 bp_m103 ?_
          exact x_iret hC hE dX9_bundle_37 ⟨_, _, rfl, rfl, hp⟩
  · have hp := hp.2 hc
    refine x_bipush hC dX9_bundle_8 bp_m101 ?_
    exact x_iret hC hE dX9_bundle_10 ⟨_, _, rfl, rfl, hp⟩
theorem dX9_giveUp_0 : decode cX9_giveUp 0 = .ok (.aload_n 0, 1) := by decide +kernel
theorem dX9_giveUp_1 : decode cX9_giveUp 1 = .ok (.getfield 31, 3) := by decide +kernel
theorem dX9_giveUp_4 : decode cX9_giveUp 4 = .ok (.iload_n 1, 1) := by decide +kernel
theorem dX9_giveUp_5 : decode cX9_giveUp 5 = .ok (.iaload, 1) := by decide +kernel
theorem dX9_giveUp_6 : decode cX9_giveUp 6 = .ok (.aload_n 0, 1) := by decide +kernel
theorem dX9_giveUp_7 : decode cX9_giveUp 7 = .ok (.getfield 34, 3) := by decide +kernel
theorem dX9_giveUp_10 : decode cX9_giveUp 10 = .ok (.iload_n 1, 1) := by decide +kernel
theorem dX9_giveUp_11 : decode cX9_giveUp 11 = .ok (.iaload, 1) := by decide +kernel
theorem dX9_giveUp_12 : decode cX9_giveUp 12 = .ok (.invokestatic 119, 3) := by decide +kernel
theorem dX9_giveUp_15 : decode cX9_giveUp 15 = .ok (.istore_n 2, 1) := by decide +kernel
theorem dX9_giveUp_16 : decode cX9_giveUp 16 = .ok (.iconst 0, 1) := by decide +kernel
theorem dX9_giveUp_17 : decode cX9_giveUp 17 = .ok (.istore_n 3, 1) := by decide +kernel
theorem dX9_giveUp_18 : decode cX9_giveUp 18 = .ok (.iload_n 3, 1) := by decide +kernel
theorem dX9_giveUp_19 : decode cX9_giveUp 19 = .ok (.iload_n 2, 1) := by decide +kernel
theorem dX9_giveUp_20 : decode cX9_giveUp 20 = .ok (.if_icmp .ge 89, 3) := by decide +kernel
theorem dX9_giveUp_23 : decode cX9_giveUp 23 = .ok (.bipush 64, 2) := by decide +kernel
theorem dX9_giveUp_25 : decode cX9_giveUp 25 = .ok (.iload_n 1, 1) := by decide +kernel
theorem dX9_giveUp_26 : decode cX9_giveUp 26 = .ok (.imul, 1) := by decide +kernel
theorem dX9_giveUp_27 : decode cX9_giveUp 27 = .ok (.aload_n 0, 1) := by decide +kernel
theorem dX9_giveUp_28 : decode cX9_giveUp 28 = .ok (.getfield 31, 3) := by decide +kernel
theorem dX9_giveUp_31 : decode cX9_giveUp 31 = .ok (.iload_n 1, 1) := by decide +kernel
theorem dX9_giveUp_32 : decode cX9_giveUp 32 = .ok (.iaload, 1) := by decide +kernel
theorem dX9_giveUp_33 : decode cX9_giveUp 33 = .ok (.iload_n 3, 1) := by decide +kernel
theorem dX9_giveUp_34 : decode cX9_giveUp 34 = .ok (.iadd, 1) := by decide +kernel
theorem dX9_giveUp_35 : decode cX9_giveUp 35 = .ok (.bipush 64, 2) := by decide +kernel
theorem dX9_giveUp_37 : decode cX9_giveUp 37 = .ok (.irem, 1) := by decide +kernel
theorem dX9_giveUp_38 : decode cX9_giveUp 38 = .ok (.iadd, 1) := by decide +kernel
theorem dX9_giveUp_39 : decode cX9_giveUp 39 = .ok (.istore 4, 2) := by decide +kernel
theorem dX9_giveUp_41 : decode cX9_giveUp 41 = .ok (.aload_n 0, 1) := by decide +kernel
theorem dX9_giveUp_42 : decode cX9_giveUp 42 = .ok (.getfield 68, 3) := by decide +kernel
theorem dX9_giveUp_45 : decode cX9_giveUp 45 = .ok (.iload 4, 2) := by decide +kernel
theorem dX9_giveUp_47 : decode cX9_giveUp 47 = .ok (.baload, 1) := by decide +kernel
theorem dX9_giveUp_48 : decode cX9_giveUp 48 = .ok (.ifCond .ne 55, 3) := by decide +kernel
theorem dX9_giveUp_51 : decode cX9_giveUp 51 = .ok (.aload_n 0, 1) := by decide +kernel
theorem dX9_giveUp_52 : decode cX9_giveUp 52 = .ok (.getfield 65, 3) := by decide +kernel
theorem dX9_giveUp_55 : decode cX9_giveUp 55 = .ok (.iload 4, 2) := by decide +kernel
theorem dX9_giveUp_57 : decode cX9_giveUp 57 = .ok (.iaload, 1) := by decide +kernel
theorem dX9_giveUp_58 : decode cX9_giveUp 58 = .ok (.aload_n 0, 1) := by decide +kernel
theorem dX9_giveUp_59 : decode cX9_giveUp 59 = .ok (.getfield 25, 3) := by decide +kernel
theorem dX9_giveUp_62 : decode cX9_giveUp 62 = .ok (.iload_n 1, 1) := by decide +kernel
theorem dX9_giveUp_63 : decode cX9_giveUp 63 = .ok (.iaload, 1) := by decide +kernel
theorem dX9_giveUp_64 : decode cX9_giveUp 64 = .ok (.if_icmp .ne 39, 3) := by decide +kernel
theorem dX9_giveUp_67 : decode cX9_giveUp 67 = .ok (.aload_n 0, 1) := by decide +kernel
theorem dX9_giveUp_68 : decode cX9_giveUp 68 = .ok (.getfield 68, 3) := by decide +kernel
theorem dX9_giveUp_71 : decode cX9_giveUp 71 = .ok (.iload 4, 2) := by decide +kernel
theorem dX9_giveUp_73 : decode cX9_giveUp 73 = .ok (.iconst 1, 1) := by decide +kernel
theorem dX9_giveUp_74 : decode cX9_giveUp 74 = .ok (.bastore, 1) := by decide +kernel
theorem dX9_giveUp_75 : decode cX9_giveUp 75 = .ok (.aload_n 0, 1) := by decide +kernel
theorem dX9_giveUp_76 : decode cX9_giveUp 76 = .ok (.getfield 47, 3) := by decide +kernel
theorem dX9_giveUp_79 : decode cX9_giveUp 79 = .ok (.iload_n 1, 1) := by decide +kernel
theorem dX9_giveUp_80 : decode cX9_giveUp 80 = .ok (.dup2, 1) := by decide +kernel
theorem dX9_giveUp_81 : decode cX9_giveUp 81 = .ok (.iaload, 1) := by decide +kernel
theorem dX9_giveUp_82 : decode cX9_giveUp 82 = .ok (.iconst 1, 1) := by decide +kernel
theorem dX9_giveUp_83 : decode cX9_giveUp 83 = .ok (.iadd, 1) := by decide +kernel
theorem dX9_giveUp_84 : decode cX9_giveUp 84 = .ok (.iastore, 1) := by decide +kernel
theorem dX9_giveUp_85 : decode cX9_giveUp 85 = .ok (.aload_n 0, 1) := by decide +kernel
theorem dX9_giveUp_86 : decode cX9_giveUp 86 = .ok (.getfield 13, 3) := by decide +kernel
theorem dX9_giveUp_89 : decode cX9_giveUp 89 = .ok (.bipush 6, 2) := by decide +kernel
theorem dX9_giveUp_91 : decode cX9_giveUp 91 = .ok (.dup2, 1) := by decide +kernel
theorem dX9_giveUp_92 : decode cX9_giveUp 92 = .ok (.iaload, 1) := by decide +kernel
theorem dX9_giveUp_93 : decode cX9_giveUp 93 = .ok (.iconst 1, 1) := by decide +kernel
theorem dX9_giveUp_94 : decode cX9_giveUp 94 = .ok (.iadd, 1) := by decide +kernel
theorem dX9_giveUp_95 : decode cX9_giveUp 95 = .ok (.iastore, 1) := by decide +kernel
theorem dX9_giveUp_96 : decode cX9_giveUp 96 = .ok (.aload_n 0, 1) := by decide +kernel
theorem dX9_giveUp_97 : decode cX9_giveUp 97 = .ok (.getfield 41, 3) := by decide +kernel
theorem dX9_giveUp_100 : decode cX9_giveUp 100 = .ok (.iload_n 1, 1) := by decide +kernel
theorem dX9_giveUp_101 : decode cX9_giveUp 101 = .ok (.iconst 1, 1) := by decide +kernel
theorem dX9_giveUp_102 : decode cX9_giveUp 102 = .ok (.bastore, 1) := by decide +kernel
theorem dX9_giveUp_103 : decode cX9_giveUp 103 = .ok (.iinc 3 1, 3) := by decide +kernel
theorem dX9_giveUp_106 : decode cX9_giveUp 106 = .ok (.goto (-88), 3) := by decide +kernel
theorem dX9_giveUp_109 : decode cX9_giveUp 109 = .ok (.aload_n 0, 1) := by decide +kernel
theorem dX9_giveUp_110 : decode cX9_giveUp 110 = .ok (.getfield 31, 3) := by decide +kernel
theorem dX9_giveUp_113 : decode cX9_giveUp 113 = .ok (.iload_n 1, 1) := by decide +kernel
theorem dX9_giveUp_114 : decode cX9_giveUp 114 = .ok (.iaload, 1) := by decide +kernel
theorem dX9_giveUp_115 : decode cX9_giveUp 115 = .ok (.aload_n 0, 1) := by decide +kernel
theorem dX9_giveUp_116 : decode cX9_giveUp 116 = .ok (.getfield 34, 3) := by decide +kernel
theorem dX9_giveUp_119 : decode cX9_giveUp 119 = .ok (.iload_n 1, 1) := by decide +kernel
theorem dX9_giveUp_120 : decode cX9_giveUp 120 = .ok (.iaload, 1) := by decide +kernel
theorem dX9_giveUp_121 : decode cX9_giveUp 121 = .ok (.if_icmp .eq 42, 3) := by decide +kernel
theorem dX9_giveUp_124 : decode cX9_giveUp 124 = .ok (.aload_n 0, 1) := by decide +kernel
theorem dX9_giveUp_125 : decode cX9_giveUp 125 = .ok (.getfield 68, 3) := by decide +kernel
theorem dX9_giveUp_128 : decode cX9_giveUp 128 = .ok (.bipush 64, 2) := by decide +kernel
theorem dX9_giveUp_130 : decode cX9_giveUp 130 = .ok (.iload_n 1, 1) := by decide +kernel
theorem dX9_giveUp_131 : decode cX9_giveUp 131 = .ok (.imul, 1) := by decide +kernel
theorem dX9_giveUp_132 : decode cX9_giveUp 132 = .ok (.aload_n 0, 1) := by decide +kernel
theorem dX9_giveUp_133 : decode cX9_giveUp 133 = .ok (.getfield 31, 3) := by decide +kernel
theorem dX9_giveUp_136 : decode cX9_giveUp 136 = .ok (.iload_n 1, 1) := by decide +kernel
theorem dX9_giveUp_137 : decode cX9_giveUp 137 = .ok (.iaload, 1) := by decide +kernel
theorem dX9_giveUp_138 : decode cX9_giveUp 138 = .ok (.iadd, 1) := by decide +kernel
theorem dX9_giveUp_139 : decode cX9_giveUp 139 = .ok (.baload, 1) := by decide +kernel
theorem dX9_giveUp_140 : decode cX9_giveUp 140 = .ok (.ifCond .eq 23, 3) := by decide +kernel
theorem dX9_giveUp_143 : decode cX9_giveUp 143 = .ok (.aload_n 0, 1) := by decide +kernel
theorem dX9_giveUp_144 : decode cX9_giveUp 144 = .ok (.getfield 31, 3) := by decide +kernel
theorem dX9_giveUp_147 : decode cX9_giveUp 147 = .ok (.iload_n 1, 1) := by decide +kernel
theorem dX9_giveUp_148 : decode cX9_giveUp 148 = .ok (.aload_n 0, 1) := by decide +kernel
theorem dX9_giveUp_149 : decode cX9_giveUp 149 = .ok (.getfield 31, 3) := by decide +kernel
theorem dX9_giveUp_152 : decode cX9_giveUp 152 = .ok (.iload_n 1, 1) := by decide +kernel
theorem dX9_giveUp_153 : decode cX9_giveUp 153 = .ok (.iaload, 1) := by decide +kernel
theorem dX9_giveUp_154 : decode cX9_giveUp 154 = .ok (.iconst 1, 1) := by decide +kernel
theorem dX9_giveUp_155 : decode cX9_giveUp 155 = .ok (.iadd, 1) := by decide +kernel
theorem dX9_giveUp_156 : decode cX9_giveUp 156 = .ok (.bipush 64, 2) := by decide +kernel
theorem dX9_giveUp_158 : decode cX9_giveUp 158 = .ok (.irem, 1) := by decide +kernel
theorem dX9_giveUp_159 : decode cX9_giveUp 159 = .ok (.iastore, 1) := by decide +kernel
theorem dX9_giveUp_160 : decode cX9_giveUp 160 = .ok (.goto (-51), 3) := by decide +kernel
theorem dX9_giveUp_163 : decode cX9_giveUp 163 = .ok (.aload_n 0, 1) := by decide +kernel
theorem dX9_giveUp_164 : decode cX9_giveUp 164 = .ok (.getfield 37, 3) := by decide +kernel
theorem dX9_giveUp_167 : decode cX9_giveUp 167 = .ok (.iload_n 1, 1) := by decide +kernel
theorem dX9_giveUp_168 : decode cX9_giveUp 168 = .ok (.iconst 0, 1) := by decide +kernel
theorem dX9_giveUp_169 : decode cX9_giveUp 169 = .ok (.bastore, 1) := by decide +kernel
theorem dX9_giveUp_170 : decode cX9_giveUp 170 = .ok (.return_, 1) := by decide +kernel
abbrev rm_X9_giveUp : Room := { frames := 1, cells := 0, slots := 0, locals := 21 }
def P_X9_giveUp (i1 : Int32) (h : HP) (Q : HP → Prop) : Prop := (vp_in i1 4) ∧ ((vp_in i1 4) ∧ (P_X9_ahead (h.1 86 i1.toNatClampNeg) (h.1 87 i1.toNatClampNeg) h (fun (v_12 : Int32) (h_12 : HP) => Lp2 (fun X_18 (i3_18 : Int32) (h_18 : HP) => ((v_12 ≤ i3_18) → (Lp1 (fun X_109  (h_109 : HP) => (vp_in i1 4) ∧ ((vp_in i1 4) ∧ ((((h_109.1 86 i1.toNatClampNeg) = (h_109.1 87 i1.toNatClampNeg)) → ((vp_in i1 4) ∧ (Q (si h_109 88 i1.toNatClampNeg 0)))) ∧ ((¬ (h_109.1 86 i1.toNatClampNeg) = (h_109.1 87 i1.toNatClampNeg)) → ((vp_in i1 4) ∧ ((vp_in ((64 * i1) + (h_109.1 86 i1.toNatClampNeg)) 256) ∧ ((((h_109.1 98 ((64 * i1) + (h_109.1 86 i1.toNatClampNeg)).toNatClampNeg) = 0) → ((vp_in i1 4) ∧ (Q (si h_109 88 i1.toNatClampNeg 0)))) ∧ ((¬ (h_109.1 98 ((64 * i1) + (h_109.1 86 i1.toNatClampNeg)).toNatClampNeg) = 0) → ((vp_in i1 4) ∧ ((vp_in i1 4) ∧ (X_109 (si h_109 86 i1.toNatClampNeg (((h_109.1 86 i1.toNatClampNeg) + 1) - ((h_109.1 86 i1.toNatClampNeg) + 1) / 64 * 64))))))))))))) h_18)) ∧ ((¬ v_12 ≤ i3_18) → ((vp_in i1 4) ∧ ((vp_in ((64 * i1) + (((h_18.1 86 i1.toNatClampNeg) + i3_18) - ((h_18.1 86 i1.toNatClampNeg) + i3_18) / 64 * 64)) 256) ∧ (((¬ (h_18.1 98 ((64 * i1) + (((h_18.1 86 i1.toNatClampNeg) + i3_18) - ((h_18.1 86 i1.toNatClampNeg) + i3_18) / 64 * 64)).toNatClampNeg) = 0) → (X_18 (i3_18 + 1) h_18)) ∧ (((h_18.1 98 ((64 * i1) + (((h_18.1 86 i1.toNatClampNeg) + i3_18) - ((h_18.1 86 i1.toNatClampNeg) + i3_18) / 64 * 64)).toNatClampNeg) = 0) → ((vp_in ((64 * i1) + (((h_18.1 86 i1.toNatClampNeg) + i3_18) - ((h_18.1 86 i1.toNatClampNeg) + i3_18) / 64 * 64)) 256) ∧ ((vp_in i1 4) ∧ (((¬ (h_18.1 97 ((64 * i1) + (((h_18.1 86 i1.toNatClampNeg) + i3_18) - ((h_18.1 86 i1.toNatClampNeg) + i3_18) / 64 * 64)).toNatClampNeg) = (h_18.1 84 i1.toNatClampNeg)) → (X_18 (i3_18 + 1) h_18)) ∧ (((h_18.1 97 ((64 * i1) + (((h_18.1 86 i1.toNatClampNeg) + i3_18) - ((h_18.1 86 i1.toNatClampNeg) + i3_18) / 64 * 64)).toNatClampNeg) = (h_18.1 84 i1.toNatClampNeg)) → ((vp_in ((64 * i1) + (((h_18.1 86 i1.toNatClampNeg) + i3_18) - ((h_18.1 86 i1.toNatClampNeg) + i3_18) / 64 * 64)) 256) ∧ ((vp_in i1 4) ∧ ((vp_in i1 4) ∧ ((vp_in i1 4) ∧ (X_18 (i3_18 + 1) (si (si (si (si h_18 98 ((64 * i1) + (((h_18.1 86 i1.toNatClampNeg) + i3_18) - ((h_18.1 86 i1.toNatClampNeg) + i3_18) / 64 * 64)).toNatClampNeg 1) 91 i1.toNatClampNeg (((si h_18 98 ((64 * i1) + (((h_18.1 86 i1.toNatClampNeg) + i3_18) - ((h_18.1 86 i1.toNatClampNeg) + i3_18) / 64 * 64)).toNatClampNeg 1).1 91 i1.toNatClampNeg) + 1)) 80 6 (((si (si h_18 98 ((64 * i1) + (((h_18.1 86 i1.toNatClampNeg) + i3_18) - ((h_18.1 86 i1.toNatClampNeg) + i3_18) / 64 * 64)).toNatClampNeg 1) 91 i1.toNatClampNeg (((si h_18 98 ((64 * i1) + (((h_18.1 86 i1.toNatClampNeg) + i3_18) - ((h_18.1 86 i1.toNatClampNeg) + i3_18) / 64 * 64)).toNatClampNeg 1).1 91 i1.toNatClampNeg) + 1)).1 80 6) + 1)) 89 i1.toNatClampNeg 1)))))))))))))))) 0 h_12)))
set_option maxHeartbeats 4000000 in
theorem t_X9_giveUp {i1 : Int32} {h : HP} {Q : HP → Prop}  (hp : P_X9_giveUp i1 h Q) : MT yX9_giveUp cX9_giveUp 5 none rm_X9_giveUp [.ref 78, .int i1] gM SH (emb h) (pV Q) := by
  refine MT.of (by decide +kernel) (Nat.le_of_ble_eq_true rfl) (fun C hC hE => ?_)
  show SW C gM 0 [(0, .ref 78), (1, .int i1)] [] h
  unfold P_X9_giveUp at hp
  refine x_aload_n hC dX9_giveUp_0 (lm 0 rfl) ?_
  refine s_getR (r := 86) hC dX9_giveUp_1 fk_9_31 ty_78 (fr_9_14 ty_78).1 ?_
  refine x_iload_n hC dX9_giveUp_4 (lm 1 rfl) ?_
  obtain ⟨ho, hp⟩ := hp
  refine s_iald hC dX9_giveUp_5 ((fr_9_14 ty_78).2) ho ?_
  refine x_aload_n hC dX9_giveUp_6 (lm 0 rfl) ?_
  refine s_getR (r := 87) hC dX9_giveUp_7 fk_9_34 ty_78 (fr_9_15 ty_78).1 ?_
  refine x_iload_n hC dX9_giveUp_10 (lm 1 rfl) ?_
  obtain ⟨ho, hp⟩ := hp
  refine s_iald hC dX9_giveUp_11 ((fr_9_15 ty_78).2) ho ?_
  refine s_callSi (avs := [.int (h.1 86 i1.toNatClampNeg), .int (h.1 87 i1.toNatClampNeg)]) (st := []) hC dX9_giveUp_12 ml_9_119 ms_X9_ahead rfl (t_X9_ahead  hp) (Nat.le_of_ble_eq_true rfl) ⟨rfl, rfl⟩ ⟨Nat.le_of_ble_eq_true rfl, Nat.le_of_ble_eq_true rfl⟩ (fun v_12 h_12 hp => ?_)
  refine x_istore_n (lv' := [(2, .int v_12), (0, .ref 78), (1, .int i1)]) hC dX9_giveUp_15 (by decide) rfl ?_
  refine x_iconst hC dX9_giveUp_16 ic_0 ?_
  refine x_istore_n (lv' := [(3, .int 0), (2, .int v_12), (0, .ref 78), (1, .int i1)]) hC dX9_giveUp_17 (by decide) rfl ?_
  refine x_subk (lv' := [(0, .ref 78), (1, .int i1), (2, .int v_12), (3, .int 0)]) [2, 3, 1, 0] rfl ?_
  refine hp (fun i3_18 h_18 => SW C gM 18 [(0, .ref 78), (1, .int i1), (2, .int v_12), (3, .int i3_18)] [] h_18) (fun i3_18 h_18 hp => ?_)
  refine x_iload_n hC dX9_giveUp_18 (lm 3 rfl) ?_
  refine x_iload_n hC dX9_giveUp_19 (lm 2 rfl) ?_
  refine x_icmp_ge (tgt := 109) hC dX9_giveUp_20 (by decide) (fun hc => ?_) (fun hc => ?_)
  · have hp := hp.1 hc
    refine x_subk (lv' := [(0, .ref 78), (1, .int i1)]) [0, 1] rfl ?_
    refine hp (fun  h_109 => SW C gM 109 [(0, .ref 78), (1, .int i1)] [] h_109) (fun  h_109 hp => ?_)
    refine x_aload_n hC dX9_giveUp_109 (lm 0 rfl) ?_
    refine s_getR (r := 86) hC dX9_giveUp_110 fk_9_31 ty_78 (fr_9_14 ty_78).1 ?_
    refine x_iload_n hC dX9_giveUp_113 (lm 1 rfl) ?_
    obtain ⟨ho, hp⟩ := hp
    refine s_iald hC dX9_giveUp_114 ((fr_9_14 ty_78).2) ho ?_
    refine x_aload_n hC dX9_giveUp_115 (lm 0 rfl) ?_
    refine s_getR (r := 87) hC dX9_giveUp_116 fk_9_34 ty_78 (fr_9_15 ty_78).1 ?_
    refine x_iload_n hC dX9_giveUp_119 (lm 1 rfl) ?_
    obtain ⟨ho, hp⟩ := hp
    refine s_iald hC dX9_giveUp_120 ((fr_9_15 ty_78).2) ho ?_
    refine x_icmp_eq (tgt := 163) hC dX9_giveUp_121 (by decide) (fun hc => ?_) (fun hc => ?_)
    · have hp := hp.1 hc
      refine x_aload_n hC dX9_giveUp_163 (lm 0 rfl) ?_
      refine s_getR (r := 88) hC dX9_giveUp_164 fk_9_37 ty_78 (fr_9_16 ty_78).1 ?_
      refine x_iload_n hC dX9_giveUp_167 (lm 1 rfl) ?_
      refine x_iconst hC dX9_giveUp_168 ic_0 ?_
      obtain ⟨ho, hp⟩ := hp
      refine s_zast (y := 0) hC dX9_giveUp_169 ((fr_9_16 ty_78).2) ho (by decide) ?_
      exact x_vret hC hE dX9_giveUp_170 ⟨_, rfl, rfl, hp⟩
    · have hp := hp.2 hc
      refine x_aload_n hC dX9_giveUp_124 (lm 0 rfl) ?_
      refine s_getR (r := 98) hC dX9_giveUp_125 fk_9_68 ty_78 (fr_9_26 ty_78).1 ?_
      refine x_bipush hC dX9_giveUp_128 bp_64 ?_
      refine x_iload_n hC dX9_giveUp_130 (lm 1 rfl) ?_
      refine x_imul hC dX9_giveUp_131 ?_
      refine x_aload_n hC dX9_giveUp_132 (lm 0 rfl) ?_
      refine s_getR (r := 86) hC dX9_giveUp_133 fk_9_31 ty_78 (fr_9_14 ty_78).1 ?_
      refine x_iload_n hC dX9_giveUp_136 (lm 1 rfl) ?_
      obtain ⟨ho, hp⟩ := hp
      refine s_iald hC dX9_giveUp_137 ((fr_9_14 ty_78).2) ho ?_
      refine x_iadd hC dX9_giveUp_138 ?_
      obtain ⟨ho, hp⟩ := hp
      refine s_zald hC dX9_giveUp_139 ((fr_9_26 ty_78).2) ho ?_
      refine x_if_eq (tgt := 163) hC dX9_giveUp_140 (by decide) (fun hc => ?_) (fun hc => ?_)
      · have hp := hp.1 hc
        refine x_aload_n hC dX9_giveUp_163 (lm 0 rfl) ?_
        refine s_getR (r := 88) hC dX9_giveUp_164 fk_9_37 ty_78 (fr_9_16 ty_78).1 ?_
        refine x_iload_n hC dX9_giveUp_167 (lm 1 rfl) ?_
        refine x_iconst hC dX9_giveUp_168 ic_0 ?_
        obtain ⟨ho, hp⟩ := hp
        refine s_zast (y := 0) hC dX9_giveUp_169 ((fr_9_16 ty_78).2) ho (by decide) ?_
        exact x_vret hC hE dX9_giveUp_170 ⟨_, rfl, rfl, hp⟩
      · have hp := hp.2 hc
        refine x_aload_n hC dX9_giveUp_143 (lm 0 rfl) ?_
        refine s_getR (r := 86) hC dX9_giveUp_144 fk_9_31 ty_78 (fr_9_14 ty_78).1 ?_
        refine x_iload_n hC dX9_giveUp_147 (lm 1 rfl) ?_
        refine x_aload_n hC dX9_giveUp_148 (lm 0 rfl) ?_
        refine s_getR (r := 86) hC dX9_giveUp_149 fk_9_31 ty_78 (fr_9_14 ty_78).1 ?_
        refine x_iload_n hC dX9_giveUp_152 (lm 1 rfl) ?_
        obtain ⟨ho, hp⟩ := hp
        refine s_iald hC dX9_giveUp_153 ((fr_9_14 ty_78).2) ho ?_
        refine x_iconst hC dX9_giveUp_154 ic_1 ?_
        refine x_iadd hC dX9_giveUp_155 ?_
        refine x_bipush hC dX9_giveUp_156 bp_64 ?_
        refine x_irem hC dX9_giveUp_158 (by decide) ?_
        obtain ⟨ho, hp⟩ := hp
        refine s_iast hC dX9_giveUp_159 ((fr_9_14 ty_78).2) ho ?_
        refine x_goto (tgt := 109) hC dX9_giveUp_160 (by decide) ?_
        exact x_subk [0, 1] rfl hp
  · have hp := hp.2 hc
    refine x_bipush hC dX9_giveUp_23 bp_64 ?_
    refine x_iload_n hC dX9_giveUp_25 (lm 1 rfl) ?_
    refine x_imul hC dX9_giveUp_26 ?_
    refine x_aload_n hC dX9_giveUp_27 (lm 0 rfl) ?_
    refine s_getR (r := 86) hC dX9_giveUp_28 fk_9_31 ty_78 (fr_9_14 ty_78).1 ?_
    refine x_iload_n hC dX9_giveUp_31 (lm 1 rfl) ?_
    obtain ⟨ho, hp⟩ := hp
    refine s_iald hC dX9_giveUp_32 ((fr_9_14 ty_78).2) ho ?_
    refine x_iload_n hC dX9_giveUp_33 (lm 3 rfl) ?_
    refine x_iadd hC dX9_giveUp_34 ?_
    refine x_bipush hC dX9_giveUp_35 bp_64 ?_
    refine x_irem hC dX9_giveUp_37 (by decide) ?_
    refine x_iadd hC dX9_giveUp_38 ?_
    refine x_istore (lv' := [(4, .int ((64 * i1) + (((h_18.1 86 i1.toNatClampNeg) + i3_18) - ((h_18.1 86 i1.toNatClampNeg) + i3_18) / 64 * 64))), (0, .ref 78), (1, .int i1), (2, .int v_12), (3, .int i3_18)]) hC dX9_giveUp_39 (by decide) rfl ?_
    refine x_aload_n hC dX9_giveUp_41 (lm 1 rfl) ?_
    refine s_getR (r := 98) hC dX9_giveUp_42 fk_9_68 ty_78 (fr_9_26 ty_78).1 ?_
    refine x_iload hC dX9_giveUp_45 (lm 0 rfl) ?_
    obtain ⟨ho, hp⟩ := hp
    refine s_zald hC dX9_giveUp_47 ((fr_9_26 ty_78).2) ho ?_
    refine x_if_ne (tgt := 103) hC dX9_giveUp_48 (by decide) (fun hc => ?_) (fun hc => ?_)
    · have hp := hp.1 hc
      refine x_iinc (u := i3_18 + 1) (lv' := [(3, .int (i3_18 + 1)), (4, .int ((64 * i1) + (((h_18.1 86 i1.toNatClampNeg) + i3_18) - ((h_18.1 86 i1.toNatClampNeg) + i3_18) / 64 * 64))), (0, .ref 78), (1, .int i1), (2, .int v_12)]) hC dX9_giveUp_103 (lm 4 rfl) (congrArg _ ic_1) (by decide) rfl ?_
      refine x_goto (tgt := 18) hC dX9_giveUp_106 (by decide) ?_
      exact x_subk [2, 3, 4, 0] rfl hp
    · have hp := hp.2 hc
      refine x_aload_n hC dX9_giveUp_51 (lm 1 rfl) ?_
      refine s_getR (r := 97) hC dX9_giveUp_52 fk_9_65 ty_78 (fr_9_25 ty_78).1 ?_
      refine x_iload hC dX9_giveUp_55 (lm 0 rfl) ?_
      obtain ⟨ho, hp⟩ := hp
      refine s_iald hC dX9_giveUp_57 ((fr_9_25 ty_78).2) ho ?_
      refine x_aload_n hC dX9_giveUp_58 (lm 1 rfl) ?_
      refine s_getR (r := 84) hC dX9_giveUp_59 fk_9_25 ty_78 (fr_9_12 ty_78).1 ?_
      refine x_iload_n hC dX9_giveUp_62 (lm 2 rfl) ?_
      obtain ⟨ho, hp⟩ := hp
      refine s_iald hC dX9_giveUp_63 ((fr_9_12 ty_78).2) ho ?_
      refine x_icmp_ne (tgt := 103) hC dX9_giveUp_64 (by decide) (fun hc => ?_) (fun hc => ?_)
      · have hp := hp.1 hc
        refine x_iinc (u := i3_18 + 1) (lv' := [(3, .int (i3_18 + 1)), (4, .int ((64 * i1) + (((h_18.1 86 i1.toNatClampNeg) + i3_18) - ((h_18.1 86 i1.toNatClampNeg) + i3_18) / 64 * 64))), (0, .ref 78), (1, .int i1), (2, .int v_12)]) hC dX9_giveUp_103 (lm 4 rfl) (congrArg _ ic_1) (by decide) rfl ?_
        refine x_goto (tgt := 18) hC dX9_giveUp_106 (by decide) ?_
        exact x_subk [2, 3, 4, 0] rfl hp
      · have hp := hp.2 hc
        refine x_aload_n hC dX9_giveUp_67 (lm 1 rfl) ?_
        refine s_getR (r := 98) hC dX9_giveUp_68 fk_9_68 ty_78 (fr_9_26 ty_78).1 ?_
        refine x_iload hC dX9_giveUp_71 (lm 0 rfl) ?_
        refine x_iconst hC dX9_giveUp_73 ic_1 ?_
        obtain ⟨ho, hp⟩ := hp
        refine s_zast (y := 1) hC dX9_giveUp_74 ((fr_9_26 ty_78).2) ho (by decide) ?_
        refine x_aload_n hC dX9_giveUp_75 (lm 1 rfl) ?_
        refine s_getR (r := 91) hC dX9_giveUp_76 fk_9_47 ty_78 (fr_9_19 ty_78).1 ?_
        refine x_iload_n hC dX9_giveUp_79 (lm 2 rfl) ?_
        refine x_dup2 hC dX9_giveUp_80 rfl rfl ?_
        obtain ⟨ho, hp⟩ := hp
        refine s_iald hC dX9_giveUp_81 ((fr_9_19 ty_78).2) ho ?_
        refine x_iconst hC dX9_giveUp_82 ic_1 ?_
        refine x_iadd hC dX9_giveUp_83 ?_
        obtain ⟨ho, hp⟩ := hp
        refine s_iast hC dX9_giveUp_84 ((fr_9_19 ty_78).2) ho ?_
        refine x_aload_n hC dX9_giveUp_85 (lm 1 rfl) ?_
        refine s_getR (r := 80) hC dX9_giveUp_86 fk_9_13 ty_78 (fr_9_8 ty_78).1 ?_
        refine x_bipush hC dX9_giveUp_89 bp_6 ?_
        refine x_dup2 hC dX9_giveUp_91 rfl rfl ?_
        refine s_iald hC dX9_giveUp_92 ((fr_9_8 ty_78).2) (vi (by decide)) ?_
        refine x_iconst hC dX9_giveUp_93 ic_1 ?_
        refine x_iadd hC dX9_giveUp_94 ?_
        refine s_iast hC dX9_giveUp_95 ((fr_9_8 ty_78).2) (vi (by decide)) ?_
        refine x_aload_n hC dX9_giveUp_96 (lm 1 rfl) ?_
        refine s_getR (r := 89) hC dX9_giveUp_97 fk_9_41 ty_78 (fr_9_17 ty_78).1 ?_
        refine x_iload_n hC dX9_giveUp_100 (lm 2 rfl) ?_
        refine x_iconst hC dX9_giveUp_101 ic_1 ?_
        obtain ⟨ho, hp⟩ := hp
        refine s_zast (y := 1) hC dX9_giveUp_102 ((fr_9_17 ty_78).2) ho (by decide) ?_
        refine x_iinc (u := i3_18 + 1) (lv' := [(3, .int (i3_18 + 1)), (4, .int ((64 * i1) + (((h_18.1 86 i1.toNatClampNeg) + i3_18) - ((h_18.1 86 i1.toNatClampNeg) + i3_18) / 64 * 64))), (0, .ref 78), (1, .int i1), (2, .int v_12)]) hC dX9_giveUp_103 (lm 4 rfl) (congrArg _ ic_1) (by decide) rfl ?_
        refine x_goto (tgt := 18) hC dX9_giveUp_106 (by decide) ?_
        exact x_subk [2, 3, 4, 0] rfl hp
theorem dX9_expire_0 : decode cX9_expire 0 = .ok (.aload_n 0, 1) := by decide +kernel
theorem dX9_expire_1 : decode cX9_expire 1 = .ok (.iload_n 1, 1) := by decide +kernel
theorem dX9_expire_2 : decode cX9_expire 2 = .ok (.invokevirtual 171, 3) := by decide +kernel
theorem dX9_expire_5 : decode cX9_expire 5 = .ok (.ifCond .ne 6, 3) := by decide +kernel
theorem dX9_expire_8 : decode cX9_expire 8 = .ok (.bipush (-101), 2) := by decide +kernel
theorem dX9_expire_10 : decode cX9_expire 10 = .ok (.ireturn, 1) := by decide +kernel
theorem dX9_expire_11 : decode cX9_expire 11 = .ok (.aload_n 0, 1) := by decide +kernel
theorem dX9_expire_12 : decode cX9_expire 12 = .ok (.getfield 16, 3) := by decide +kernel
theorem dX9_expire_15 : decode cX9_expire 15 = .ok (.iload_n 1, 1) := by decide +kernel
theorem dX9_expire_16 : decode cX9_expire 16 = .ok (.iaload, 1) := by decide +kernel
theorem dX9_expire_17 : decode cX9_expire 17 = .ok (.iconst 1, 1) := by decide +kernel
theorem dX9_expire_18 : decode cX9_expire 18 = .ok (.if_icmp .ne 7, 3) := by decide +kernel
theorem dX9_expire_21 : decode cX9_expire 21 = .ok (.iconst 1, 1) := by decide +kernel
theorem dX9_expire_22 : decode cX9_expire 22 = .ok (.goto 4, 3) := by decide +kernel
theorem dX9_expire_25 : decode cX9_expire 25 = .ok (.iconst 0, 1) := by decide +kernel
theorem dX9_expire_26 : decode cX9_expire 26 = .ok (.istore_n 2, 1) := by decide +kernel
theorem dX9_expire_27 : decode cX9_expire 27 = .ok (.iload_n 2, 1) := by decide +kernel
theorem dX9_expire_28 : decode cX9_expire 28 = .ok (.ifCond .ne 23, 3) := by decide +kernel
theorem dX9_expire_31 : decode cX9_expire 31 = .ok (.aload_n 0, 1) := by decide +kernel
theorem dX9_expire_32 : decode cX9_expire 32 = .ok (.iload_n 1, 1) := by decide +kernel
theorem dX9_expire_33 : decode cX9_expire 33 = .ok (.invokevirtual 182, 3) := by decide +kernel
theorem dX9_expire_36 : decode cX9_expire 36 = .ok (.ifCond .eq 12, 3) := by decide +kernel
theorem dX9_expire_39 : decode cX9_expire 39 = .ok (.aload_n 0, 1) := by decide +kernel
theorem dX9_expire_40 : decode cX9_expire 40 = .ok (.getfield 37, 3) := by decide +kernel
theorem dX9_expire_43 : decode cX9_expire 43 = .ok (.iload_n 1, 1) := by decide +kernel
theorem dX9_expire_44 : decode cX9_expire 44 = .ok (.baload, 1) := by decide +kernel
theorem dX9_expire_45 : decode cX9_expire 45 = .ok (.ifCond .ne 6, 3) := by decide +kernel
theorem dX9_expire_48 : decode cX9_expire 48 = .ok (.bipush (-103), 2) := by decide +kernel
theorem dX9_expire_50 : decode cX9_expire 50 = .ok (.ireturn, 1) := by decide +kernel
theorem dX9_expire_51 : decode cX9_expire 51 = .ok (.iconst 0, 1) := by decide +kernel
theorem dX9_expire_52 : decode cX9_expire 52 = .ok (.istore_n 3, 1) := by decide +kernel
theorem dX9_expire_53 : decode cX9_expire 53 = .ok (.aload_n 0, 1) := by decide +kernel
theorem dX9_expire_54 : decode cX9_expire 54 = .ok (.getfield 154, 3) := by decide +kernel
theorem dX9_expire_57 : decode cX9_expire 57 = .ok (.iconst 1, 1) := by decide +kernel
theorem dX9_expire_58 : decode cX9_expire 58 = .ok (.isub, 1) := by decide +kernel
theorem dX9_expire_59 : decode cX9_expire 59 = .ok (.istore 4, 2) := by decide +kernel
theorem dX9_expire_61 : decode cX9_expire 61 = .ok (.iload 4, 2) := by decide +kernel
theorem dX9_expire_63 : decode cX9_expire 63 = .ok (.ifCond .lt 35, 3) := by decide +kernel
theorem dX9_expire_66 : decode cX9_expire 66 = .ok (.aload_n 0, 1) := by decide +kernel
theorem dX9_expire_67 : decode cX9_expire 67 = .ok (.getfield 107, 3) := by decide +kernel
theorem dX9_expire_70 : decode cX9_expire 70 = .ok (.bipush 8, 2) := by decide +kernel
theorem dX9_expire_72 : decode cX9_expire 72 = .ok (.iload 4, 2) := by decide +kernel
theorem dX9_expire_74 : decode cX9_expire 74 = .ok (.imul, 1) := by decide +kernel
theorem dX9_expire_75 : decode cX9_expire 75 = .ok (.iconst 1, 1) := by decide +kernel
theorem dX9_expire_76 : decode cX9_expire 76 = .ok (.iadd, 1) := by decide +kernel
theorem dX9_expire_77 : decode cX9_expire 77 = .ok (.iaload, 1) := by decide +kernel
theorem dX9_expire_78 : decode cX9_expire 78 = .ok (.iload_n 1, 1) := by decide +kernel
theorem dX9_expire_79 : decode cX9_expire 79 = .ok (.if_icmp .ne 13, 3) := by decide +kernel
theorem dX9_expire_82 : decode cX9_expire 82 = .ok (.aload_n 0, 1) := by decide +kernel
theorem dX9_expire_83 : decode cX9_expire 83 = .ok (.iload 4, 2) := by decide +kernel
theorem dX9_expire_85 : decode cX9_expire 85 = .ok (.invokevirtual 226, 3) := by decide +kernel
theorem dX9_expire_88 : decode cX9_expire 88 = .ok (.pop, 1) := by decide +kernel
theorem dX9_expire_89 : decode cX9_expire 89 = .ok (.iinc 3 1, 3) := by decide +kernel
theorem dX9_expire_92 : decode cX9_expire 92 = .ok (.iinc 4 (-1), 3) := by decide +kernel
theorem dX9_expire_95 : decode cX9_expire 95 = .ok (.goto (-34), 3) := by decide +kernel
theorem dX9_expire_98 : decode cX9_expire 98 = .ok (.iload_n 2, 1) := by decide +kernel
theorem dX9_expire_99 : decode cX9_expire 99 = .ok (.ifCond .eq 13, 3) := by decide +kernel
theorem dX9_expire_102 : decode cX9_expire 102 = .ok (.aload_n 0, 1) := by decide +kernel
theorem dX9_expire_103 : decode cX9_expire 103 = .ok (.getfield 16, 3) := by decide +kernel
theorem dX9_expire_106 : decode cX9_expire 106 = .ok (.iload_n 1, 1) := by decide +kernel
theorem dX9_expire_107 : decode cX9_expire 107 = .ok (.iconst 0, 1) := by decide +kernel
theorem dX9_expire_108 : decode cX9_expire 108 = .ok (.iastore, 1) := by decide +kernel
theorem dX9_expire_109 : decode cX9_expire 109 = .ok (.goto 37, 3) := by decide +kernel
theorem dX9_expire_112 : decode cX9_expire 112 = .ok (.aload_n 0, 1) := by decide +kernel
theorem dX9_expire_113 : decode cX9_expire 113 = .ok (.getfield 41, 3) := by decide +kernel
theorem dX9_expire_116 : decode cX9_expire 116 = .ok (.iload_n 1, 1) := by decide +kernel
theorem dX9_expire_117 : decode cX9_expire 117 = .ok (.aload_n 0, 1) := by decide +kernel
theorem dX9_expire_118 : decode cX9_expire 118 = .ok (.getfield 41, 3) := by decide +kernel
theorem dX9_expire_121 : decode cX9_expire 121 = .ok (.iload_n 1, 1) := by decide +kernel
theorem dX9_expire_122 : decode cX9_expire 122 = .ok (.baload, 1) := by decide +kernel
theorem dX9_expire_123 : decode cX9_expire 123 = .ok (.ifCond .ne 12, 3) := by decide +kernel
theorem dX9_expire_126 : decode cX9_expire 126 = .ok (.aload_n 0, 1) := by decide +kernel
theorem dX9_expire_127 : decode cX9_expire 127 = .ok (.getfield 44, 3) := by decide +kernel
theorem dX9_expire_130 : decode cX9_expire 130 = .ok (.iload_n 1, 1) := by decide +kernel
theorem dX9_expire_131 : decode cX9_expire 131 = .ok (.baload, 1) := by decide +kernel
theorem dX9_expire_132 : decode cX9_expire 132 = .ok (.ifCond .eq 7, 3) := by decide +kernel
theorem dX9_expire_135 : decode cX9_expire 135 = .ok (.iconst 1, 1) := by decide +kernel
theorem dX9_expire_136 : decode cX9_expire 136 = .ok (.goto 4, 3) := by decide +kernel
theorem dX9_expire_139 : decode cX9_expire 139 = .ok (.iconst 0, 1) := by decide +kernel
theorem dX9_expire_140 : decode cX9_expire 140 = .ok (.bastore, 1) := by decide +kernel
theorem dX9_expire_141 : decode cX9_expire 141 = .ok (.aload_n 0, 1) := by decide +kernel
theorem dX9_expire_142 : decode cX9_expire 142 = .ok (.iload_n 1, 1) := by decide +kernel
theorem dX9_expire_143 : decode cX9_expire 143 = .ok (.invokevirtual 229, 3) := by decide +kernel
theorem dX9_expire_146 : decode cX9_expire 146 = .ok (.iload_n 3, 1) := by decide +kernel
theorem dX9_expire_147 : decode cX9_expire 147 = .ok (.ireturn, 1) := by decide +kernel
abbrev rm_X9_expire : Room := { frames := 2, cells := 0, slots := 0, locals := 45 }
def P_X9_expire_j51 (_q0 : Nat) (i1 : Int32) (i2 : Int32) (h : HP)  (Q : Int32 → HP → Prop) : Prop := Lp3 (fun X_61 (i3_61 : Int32) (i4_61 : Int32) (h_61 : HP) => ((i4_61 < 0) → (((i2 = 0) → ((vp_in i1 4) ∧ (((¬ (h_61.1 89 i1.toNatClampNeg) = 0) → ((vp_in i1 4) ∧ (P_X9_giveUp i1 (si h_61 89 i1.toNatClampNeg 1) (fun (h_143 : HP) => Q i3_61 h_143)))) ∧ (((h_61.1 89 i1.toNatClampNeg) = 0) → ((vp_in i1 4) ∧ ((((h_61.1 90 i1.toNatClampNeg) = 0) → ((vp_in i1 4) ∧ (P_X9_giveUp i1 (si h_61 89 i1.toNatClampNeg 0) (fun (h_143 : HP) => Q i3_61 h_143)))) ∧ ((¬ (h_61.1 90 i1.toNatClampNeg) = 0) → ((vp_in i1 4) ∧ (P_X9_giveUp i1 (si h_61 89 i1.toNatClampNeg 1) (fun (h_143 : HP) => Q i3_61 h_143)))))))))) ∧ ((¬ i2 = 0) → ((vp_in i1 4) ∧ (Q i3_61 (si h_61 81 i1.toNatClampNeg 0)))))) ∧ ((¬ i4_61 < 0) → ((vp_in ((8 * i4_61) + 1) 128) ∧ (((¬ (h_61.1 111 ((8 * i4_61) + 1).toNatClampNeg) = i1) → (X_61 i3_61 (i4_61 + (-1)) h_61)) ∧ (((h_61.1 111 ((8 * i4_61) + 1).toNatClampNeg) = i1) → (P_X9_loseNow i4_61 h_61 (fun (v_85 : Int32) (h_85 : HP) => X_61 (i3_61 + 1) (i4_61 + (-1)) h_85))))))) 0 ((h.1 78 39) - 1) h
def P_X9_expire_j27 (_q0 : Nat) (i1 : Int32) (i2 : Int32) (h : HP)  (Q : Int32 → HP → Prop) : Prop := ((¬ i2 = 0) → P_X9_expire_j51 78 i1 i2 h Q) ∧ ((i2 = 0) → (P_X9_isOpen i1 h (fun (v_33 : Int32) (h_33 : HP) => ((v_33 = 0) → (Q (-103) h_33)) ∧ ((¬ v_33 = 0) → ((vp_in i1 4) ∧ (((¬ (h_33.1 88 i1.toNatClampNeg) = 0) → P_X9_expire_j51 78 i1 i2 h_33 Q) ∧ (((h_33.1 88 i1.toNatClampNeg) = 0) → (Q (-103) h_33))))))))
def P_X9_expire (i1 : Int32) (h : HP) (Q : Int32 → HP → Prop) : Prop := P_X9_isClass i1 h (fun (v_2 : Int32) (h_2 : HP) => ((¬ v_2 = 0) → ((vp_in i1 4) ∧ (((¬ (h_2.1 81 i1.toNatClampNeg) = 1) → P_X9_expire_j27 78 i1 0 h_2 Q) ∧ (((h_2.1 81 i1.toNatClampNeg) = 1) → P_X9_expire_j27 78 i1 1 h_2 Q)))) ∧ ((v_2 = 0) → (Q (-101) h_2)))
set_option maxHeartbeats 4000000 in
theorem l_X9_expire_j51 {i1 : Int32} {i2 : Int32} {h : HP}  {Q : Int32 → HP → Prop} {C : Cx} (hC : xOk C cX9_expire yX9_expire.cls 5 rm_X9_expire (some .int)) (hE : xEnd C gM SH (pI Q))   (hp : P_X9_expire_j51 78 i1 i2 h  Q) : SW C gM 51 [(0, .ref 78), (1, .int i1), (2, .int i2)] [] h := by
  unfold P_X9_expire_j51 at hp
  refine x_iconst hC dX9_expire_51 ic_0 ?_
  refine x_istore_n (lv' := [(3, .int 0), (0, .ref 78), (1, .int i1), (2, .int i2)]) hC dX9_expire_52 (by decide) rfl ?_
  refine x_aload_n hC dX9_expire_53 (lm 1 rfl) ?_
  refine s_getI hC dX9_expire_54 fk_9_154 ty_78 ?_
  refine x_iconst hC dX9_expire_57 ic_1 ?_
  refine x_isub hC dX9_expire_58 ?_
  refine x_istore (lv' := [(4, .int ((h.1 78 39) - 1)), (3, .int 0), (0, .ref 78), (1, .int i1), (2, .int i2)]) hC dX9_expire_59 (by decide) rfl ?_
  refine x_subk (lv' := [(0, .ref 78), (1, .int i1), (2, .int i2), (3, .int 0), (4, .int ((h.1 78 39) - 1))]) [2, 3, 4, 1, 0] rfl ?_
  refine hp (fun i3_61 i4_61 h_61 => SW C gM 61 [(0, .ref 78), (1, .int i1), (2, .int i2), (3, .int i3_61), (4, .int i4_61)] [] h_61) (fun i3_61 i4_61 h_61 hp => ?_)
  refine x_iload hC dX9_expire_61 (lm 4 rfl) ?_
  refine x_if_lt (tgt := 98) hC dX9_expire_63 (by decide) (fun hc => ?_) (fun hc => ?_)
  · have hp := hp.1 hc
    refine x_iload_n hC dX9_expire_98 (lm 2 rfl) ?_
    refine x_if_eq (tgt := 112) hC dX9_expire_99 (by decide) (fun hc => ?_) (fun hc => ?_)
    · have hp := hp.1 hc
      refine x_aload_n hC dX9_expire_112 (lm 0 rfl) ?_
      refine s_getR (r := 89) hC dX9_expire_113 fk_9_41 ty_78 (fr_9_17 ty_78).1 ?_
      refine x_iload_n hC dX9_expire_116 (lm 1 rfl) ?_
      refine x_aload_n hC dX9_expire_117 (lm 0 rfl) ?_
      refine s_getR (r := 89) hC dX9_expire_118 fk_9_41 ty_78 (fr_9_17 ty_78).1 ?_
      refine x_iload_n hC dX9_expire_121 (lm 1 rfl) ?_
      obtain ⟨ho, hp⟩ := hp
      refine s_zald hC dX9_expire_122 ((fr_9_17 ty_78).2) ho ?_
      refine x_if_ne (tgt := 135) hC dX9_expire_123 (by decide) (fun hc => ?_) (fun hc => ?_)
      · have hp := hp.1 hc
        refine x_iconst hC dX9_expire_135 ic_1 ?_
        refine x_goto (tgt := 140) hC dX9_expire_136 (by decide) ?_
        obtain ⟨ho, hp⟩ := hp
        refine s_zast (y := 1) hC dX9_expire_140 ((fr_9_17 ty_78).2) ho (by decide) ?_
        refine x_aload_n hC dX9_expire_141 (lm 0 rfl) ?_
        refine x_iload_n hC dX9_expire_142 (lm 1 rfl) ?_
        refine s_callVv (avs := [.int i1]) (st := []) hC dX9_expire_143 ml_9_229 mi_X9_giveUp ty_78 rfl (t_X9_giveUp  hp) (Nat.le_of_ble_eq_true rfl) ⟨rfl, rfl⟩ ⟨Nat.le_of_ble_eq_true rfl, Nat.le_of_ble_eq_true rfl⟩ (fun h_143 hp => ?_)
        refine x_iload_n hC dX9_expire_146 (lm 3 rfl) ?_
        exact x_iret hC hE dX9_expire_147 ⟨_, _, rfl, rfl, hp⟩
      · have hp := hp.2 hc
        refine x_aload_n hC dX9_expire_126 (lm 0 rfl) ?_
        refine s_getR (r := 90) hC dX9_expire_127 fk_9_44 ty_78 (fr_9_18 ty_78).1 ?_
        refine x_iload_n hC dX9_expire_130 (lm 1 rfl) ?_
        obtain ⟨ho, hp⟩ := hp
        refine s_zald hC dX9_expire_131 ((fr_9_18 ty_78).2) ho ?_
        refine x_if_eq (tgt := 139) hC dX9_expire_132 (by decide) (fun hc => ?_) (fun hc => ?_)
        · have hp := hp.1 hc
          refine x_iconst hC dX9_expire_139 ic_0 ?_
          obtain ⟨ho, hp⟩ := hp
          refine s_zast (y := 0) hC dX9_expire_140 ((fr_9_17 ty_78).2) ho (by decide) ?_
          refine x_aload_n hC dX9_expire_141 (lm 0 rfl) ?_
          refine x_iload_n hC dX9_expire_142 (lm 1 rfl) ?_
          refine s_callVv (avs := [.int i1]) (st := []) hC dX9_expire_143 ml_9_229 mi_X9_giveUp ty_78 rfl (t_X9_giveUp  hp) (Nat.le_of_ble_eq_true rfl) ⟨rfl, rfl⟩ ⟨Nat.le_of_ble_eq_true rfl, Nat.le_of_ble_eq_true rfl⟩ (fun h_143 hp => ?_)
          refine x_iload_n hC dX9_expire_146 (lm 3 rfl) ?_
          exact x_iret hC hE dX9_expire_147 ⟨_, _, rfl, rfl, hp⟩
        · have hp := hp.2 hc
          refine x_iconst hC dX9_expire_135 ic_1 ?_
          refine x_goto (tgt := 140) hC dX9_expire_136 (by decide) ?_
          obtain ⟨ho, hp⟩ := hp
          refine s_zast (y := 1) hC dX9_expire_140 ((fr_9_17 ty_78).2) ho (by decide) ?_
          refine x_aload_n hC dX9_expire_141 (lm 0 rfl) ?_
          refine x_iload_n hC dX9_expire_142 (lm 1 rfl) ?_
          refine s_callVv (avs := [.int i1]) (st := []) hC dX9_expire_143 ml_9_229 mi_X9_giveUp ty_78 rfl (t_X9_giveUp  hp) (Nat.le_of_ble_eq_true rfl) ⟨rfl, rfl⟩ ⟨Nat.le_of_ble_eq_true rfl, Nat.le_of_ble_eq_true rfl⟩ (fun h_143 hp => ?_)
          refine x_iload_n hC dX9_expire_146 (lm 3 rfl) ?_
          exact x_iret hC hE dX9_expire_147 ⟨_, _, rfl, rfl, hp⟩
    · have hp := hp.2 hc
      refine x_aload_n hC dX9_expire_102 (lm 0 rfl) ?_
      refine s_getR (r := 81) hC dX9_expire_103 fk_9_16 ty_78 (fr_9_9 ty_78).1 ?_
      refine x_iload_n hC dX9_expire_106 (lm 1 rfl) ?_
      refine x_iconst hC dX9_expire_107 ic_0 ?_
      obtain ⟨ho, hp⟩ := hp
      refine s_iast hC dX9_expire_108 ((fr_9_9 ty_78).2) ho ?_
      refine x_goto (tgt := 146) hC dX9_expire_109 (by decide) ?_
      refine x_iload_n hC dX9_expire_146 (lm 3 rfl) ?_
      exact x_iret hC hE dX9_expire_147 ⟨_, _, rfl, rfl, hp⟩
  · have hp := hp.2 hc
    refine x_aload_n hC dX9_expire_66 (lm 0 rfl) ?_
    refine s_getR (r := 111) hC dX9_expire_67 fk_9_107 ty_78 (fr_9_40 ty_78).1 ?_
    refine x_bipush hC dX9_expire_70 bp_8 ?_
    refine x_iload hC dX9_expire_72 (lm 4 rfl) ?_
    refine x_imul hC dX9_expire_74 ?_
    refine x_iconst hC dX9_expire_75 ic_1 ?_
    refine x_iadd hC dX9_expire_76 ?_
    obtain ⟨ho, hp⟩ := hp
    refine s_iald hC dX9_expire_77 ((fr_9_40 ty_78).2) ho ?_
    refine x_iload_n hC dX9_expire_78 (lm 1 rfl) ?_
    refine x_icmp_ne (tgt := 92) hC dX9_expire_79 (by decide) (fun hc => ?_) (fun hc => ?_)
    · have hp := hp.1 hc
      refine x_iinc (u := i4_61 + (-1)) (lv' := [(4, .int (i4_61 + (-1))), (0, .ref 78), (1, .int i1), (2, .int i2), (3, .int i3_61)]) hC dX9_expire_92 (lm 4 rfl) (congrArg _ ic_m1) (by decide) rfl ?_
      refine x_goto (tgt := 61) hC dX9_expire_95 (by decide) ?_
      exact x_subk [1, 2, 3, 4, 0] rfl hp
    · have hp := hp.2 hc
      refine x_aload_n hC dX9_expire_82 (lm 0 rfl) ?_
      refine x_iload hC dX9_expire_83 (lm 4 rfl) ?_
      refine s_callVi (avs := [.int i4_61]) (st := []) hC dX9_expire_85 ml_9_226 mi_X9_loseNow ty_78 rfl (t_X9_loseNow  hp) (Nat.le_of_ble_eq_true rfl) ⟨rfl, rfl⟩ ⟨Nat.le_of_ble_eq_true rfl, Nat.le_of_ble_eq_true rfl⟩ (fun v_85 h_85 hp => ?_)
      refine x_pop hC dX9_expire_88 rfl ?_
      refine x_iinc (u := i3_61 + 1) (lv' := [(3, .int (i3_61 + 1)), (0, .ref 78), (1, .int i1), (2, .int i2), (4, .int i4_61)]) hC dX9_expire_89 (lm 3 rfl) (congrArg _ ic_1) (by decide) rfl ?_
      refine x_iinc (u := i4_61 + (-1)) (lv' := [(4, .int (i4_61 + (-1))), (3, .int (i3_61 + 1)), (0, .ref 78), (1, .int i1), (2, .int i2)]) hC dX9_expire_92 (lm 4 rfl) (congrArg _ ic_m1) (by decide) rfl ?_
      refine x_goto (tgt := 61) hC dX9_expire_95 (by decide) ?_
      exact x_subk [2, 3, 4, 1, 0] rfl hp
set_option maxHeartbeats 4000000 in
theorem l_X9_expire_j27 {i1 : Int32} {i2 : Int32} {h : HP}  {Q : Int32 → HP → Prop} {C : Cx} (hC : xOk C cX9_expire yX9_expire.cls 5 rm_X9_expire (some .int)) (hE : xEnd C gM SH (pI Q))   (hp : P_X9_expire_j27 78 i1 i2 h  Q) : SW C gM 27 [(0, .ref 78), (1, .int i1), (2, .int i2)] [] h := by
  unfold P_X9_expire_j27 at hp
  refine x_iload_n hC dX9_expire_27 (lm 2 rfl) ?_
  refine x_if_ne (tgt := 51) hC dX9_expire_28 (by decide) (fun hc => ?_) (fun hc => ?_)
  · have hp := hp.1 hc
    exact x_subk [0, 1, 2] rfl (l_X9_expire_j51 hC hE   hp)
  · have hp := hp.2 hc
    refine x_aload_n hC dX9_expire_31 (lm 0 rfl) ?_
    refine x_iload_n hC dX9_expire_32 (lm 1 rfl) ?_
    refine s_callVi (avs := [.int i1]) (st := []) hC dX9_expire_33 ml_9_182 mi_X9_isOpen ty_78 rfl (t_X9_isOpen  hp) (Nat.le_of_ble_eq_true rfl) ⟨rfl, rfl⟩ ⟨Nat.le_of_ble_eq_true rfl, Nat.le_of_ble_eq_true rfl⟩ (fun v_33 h_33 hp => ?_)
    refine x_if_eq (tgt := 48) hC dX9_expire_36 (by decide) (fun hc => ?_) (fun hc => ?_)
    · have hp := hp.1 hc
      refine x_bipush hC dX9_expire_48 bp_m103 ?_
      exact x_iret hC hE dX9_expire_50 ⟨_, _, rfl, rfl, hp⟩
    · have hp := hp.2 hc
      refine x_aload_n hC dX9_expire_39 (lm 0 rfl) ?_
      refine s_getR (r := 88) hC dX9_expire_40 fk_9_37 ty_78 (fr_9_16 ty_78).1 ?_
      refine x_iload_n hC dX9_expire_43 (lm 1 rfl) ?_
      obtain ⟨ho, hp⟩ := hp
      refine s_zald hC dX9_expire_44 ((fr_9_16 ty_78).2) ho ?_
      refine x_if_ne (tgt := 51) hC dX9_expire_45 (by decide) (fun hc => ?_) (fun hc => ?_)
      · have hp := hp.1 hc
        exact x_subk [0, 1, 2] rfl (l_X9_expire_j51 hC hE   hp)
      · have hp := hp.2 hc
        refine x_bipush hC dX9_expire_48 bp_m103 ?_
        exact x_iret hC hE dX9_expire_50 ⟨_, _, rfl, rfl, hp⟩
set_option maxHeartbeats 4000000 in
theorem t_X9_expire {i1 : Int32} {h : HP} {Q : Int32 → HP → Prop}  (hp : P_X9_expire i1 h Q) : MT yX9_expire cX9_expire 5 (some .int) rm_X9_expire [.ref 78, .int i1] gM SH (emb h) (pI Q) := by
  refine MT.of (by decide +kernel) (Nat.le_of_ble_eq_true rfl) (fun C hC hE => ?_)
  show SW C gM 0 [(0, .ref 78), (1, .int i1)] [] h
  unfold P_X9_expire at hp
  refine x_aload_n hC dX9_expire_0 (lm 0 rfl) ?_
  refine x_iload_n hC dX9_expire_1 (lm 1 rfl) ?_
  refine s_callVi (avs := [.int i1]) (st := []) hC dX9_expire_2 ml_9_171 mi_X9_isClass ty_78 rfl (t_X9_isClass  hp) (Nat.le_of_ble_eq_true rfl) ⟨rfl, rfl⟩ ⟨Nat.le_of_ble_eq_true rfl, Nat.le_of_ble_eq_true rfl⟩ (fun v_2 h_2 hp => ?_)
  refine x_if_ne (tgt := 11) hC dX9_expire_5 (by decide) (fun hc => ?_) (fun hc => ?_)
  · have hp := hp.1 hc
    refine x_aload_n hC dX9_expire_11 (lm 0 rfl) ?_
    refine s_getR (r := 81) hC dX9_expire_12 fk_9_16 ty_78 (fr_9_9 ty_78).1 ?_
    refine x_iload_n hC dX9_expire_15 (lm 1 rfl) ?_
    obtain ⟨ho, hp⟩ := hp
    refine s_iald hC dX9_expire_16 ((fr_9_9 ty_78).2) ho ?_
    refine x_iconst hC dX9_expire_17 ic_1 ?_
    refine x_icmp_ne (tgt := 25) hC dX9_expire_18 (by decide) (fun hc => ?_) (fun hc => ?_)
    · have hp := hp.1 hc
      refine x_iconst hC dX9_expire_25 ic_0 ?_
      refine x_istore_n (lv' := [(2, .int 0), (0, .ref 78), (1, .int i1)]) hC dX9_expire_26 (by decide) rfl ?_
      exact x_subk [1, 2, 0] rfl (l_X9_expire_j27 hC hE   hp)
    · have hp := hp.2 hc
      refine x_iconst hC dX9_expire_21 ic_1 ?_
      refine x_goto (tgt := 26) hC dX9_expire_22 (by decide) ?_
      refine x_istore_n (lv' := [(2, .int 1), (0, .ref 78), (1, .int i1)]) hC dX9_expire_26 (by decide) rfl ?_
      exact x_subk [1, 2, 0] rfl (l_X9_expire_j27 hC hE   hp)
  · have hp := hp.2 hc
    refine x_bipush hC dX9_expire_8 bp_m101 ?_
    exact x_iret hC hE dX9_expire_10 ⟨_, _, rfl, rfl, hp⟩
theorem dX9_comesYes_0 : decode cX9_comesYes 0 = .ok (.aload_n 0, 1) := by decide +kernel
theorem dX9_comesYes_1 : decode cX9_comesYes 1 = .ok (.getfield 16, 3) := by decide +kernel
theorem dX9_comesYes_4 : decode cX9_comesYes 4 = .ok (.iload_n 1, 1) := by decide +kernel
theorem dX9_comesYes_5 : decode cX9_comesYes 5 = .ok (.iaload, 1) := by decide +kernel
theorem dX9_comesYes_6 : decode cX9_comesYes 6 = .ok (.iconst 1, 1) := by decide +kernel
theorem dX9_comesYes_7 : decode cX9_comesYes 7 = .ok (.if_icmp .eq 4, 3) := by decide +kernel
theorem dX9_comesYes_10 : decode cX9_comesYes 10 = .ok (.return_, 1) := by decide +kernel
theorem dX9_comesYes_11 : decode cX9_comesYes 11 = .ok (.aload_n 0, 1) := by decide +kernel
theorem dX9_comesYes_12 : decode cX9_comesYes 12 = .ok (.getfield 16, 3) := by decide +kernel
theorem dX9_comesYes_15 : decode cX9_comesYes 15 = .ok (.iload_n 1, 1) := by decide +kernel
theorem dX9_comesYes_16 : decode cX9_comesYes 16 = .ok (.iconst 2, 1) := by decide +kernel
theorem dX9_comesYes_17 : decode cX9_comesYes 17 = .ok (.iastore, 1) := by decide +kernel
theorem dX9_comesYes_18 : decode cX9_comesYes 18 = .ok (.aload_n 0, 1) := by decide +kernel
theorem dX9_comesYes_19 : decode cX9_comesYes 19 = .ok (.getfield 22, 3) := by decide +kernel
theorem dX9_comesYes_22 : decode cX9_comesYes 22 = .ok (.iload_n 1, 1) := by decide +kernel
theorem dX9_comesYes_23 : decode cX9_comesYes 23 = .ok (.iload_n 2, 1) := by decide +kernel
theorem dX9_comesYes_24 : decode cX9_comesYes 24 = .ok (.iastore, 1) := by decide +kernel
theorem dX9_comesYes_25 : decode cX9_comesYes 25 = .ok (.aload_n 0, 1) := by decide +kernel
theorem dX9_comesYes_26 : decode cX9_comesYes 26 = .ok (.getfield 31, 3) := by decide +kernel
theorem dX9_comesYes_29 : decode cX9_comesYes 29 = .ok (.iload_n 1, 1) := by decide +kernel
theorem dX9_comesYes_30 : decode cX9_comesYes 30 = .ok (.iconst 0, 1) := by decide +kernel
theorem dX9_comesYes_31 : decode cX9_comesYes 31 = .ok (.iastore, 1) := by decide +kernel
theorem dX9_comesYes_32 : decode cX9_comesYes 32 = .ok (.aload_n 0, 1) := by decide +kernel
theorem dX9_comesYes_33 : decode cX9_comesYes 33 = .ok (.getfield 34, 3) := by decide +kernel
theorem dX9_comesYes_36 : decode cX9_comesYes 36 = .ok (.iload_n 1, 1) := by decide +kernel
theorem dX9_comesYes_37 : decode cX9_comesYes 37 = .ok (.iconst 0, 1) := by decide +kernel
theorem dX9_comesYes_38 : decode cX9_comesYes 38 = .ok (.iastore, 1) := by decide +kernel
theorem dX9_comesYes_39 : decode cX9_comesYes 39 = .ok (.aload_n 0, 1) := by decide +kernel
theorem dX9_comesYes_40 : decode cX9_comesYes 40 = .ok (.getfield 50, 3) := by decide +kernel
theorem dX9_comesYes_43 : decode cX9_comesYes 43 = .ok (.iload_n 1, 1) := by decide +kernel
theorem dX9_comesYes_44 : decode cX9_comesYes 44 = .ok (.iconst 0, 1) := by decide +kernel
theorem dX9_comesYes_45 : decode cX9_comesYes 45 = .ok (.iastore, 1) := by decide +kernel
theorem dX9_comesYes_46 : decode cX9_comesYes 46 = .ok (.aload_n 0, 1) := by decide +kernel
theorem dX9_comesYes_47 : decode cX9_comesYes 47 = .ok (.getfield 37, 3) := by decide +kernel
theorem dX9_comesYes_50 : decode cX9_comesYes 50 = .ok (.iload_n 1, 1) := by decide +kernel
theorem dX9_comesYes_51 : decode cX9_comesYes 51 = .ok (.iconst 0, 1) := by decide +kernel
theorem dX9_comesYes_52 : decode cX9_comesYes 52 = .ok (.bastore, 1) := by decide +kernel
theorem dX9_comesYes_53 : decode cX9_comesYes 53 = .ok (.aload_n 0, 1) := by decide +kernel
theorem dX9_comesYes_54 : decode cX9_comesYes 54 = .ok (.getfield 41, 3) := by decide +kernel
theorem dX9_comesYes_57 : decode cX9_comesYes 57 = .ok (.iload_n 1, 1) := by decide +kernel
theorem dX9_comesYes_58 : decode cX9_comesYes 58 = .ok (.iconst 0, 1) := by decide +kernel
theorem dX9_comesYes_59 : decode cX9_comesYes 59 = .ok (.bastore, 1) := by decide +kernel
theorem dX9_comesYes_60 : decode cX9_comesYes 60 = .ok (.aload_n 0, 1) := by decide +kernel
theorem dX9_comesYes_61 : decode cX9_comesYes 61 = .ok (.getfield 44, 3) := by decide +kernel
theorem dX9_comesYes_64 : decode cX9_comesYes 64 = .ok (.iload_n 1, 1) := by decide +kernel
theorem dX9_comesYes_65 : decode cX9_comesYes 65 = .ok (.iconst 0, 1) := by decide +kernel
theorem dX9_comesYes_66 : decode cX9_comesYes 66 = .ok (.bastore, 1) := by decide +kernel
theorem dX9_comesYes_67 : decode cX9_comesYes 67 = .ok (.aload_n 0, 1) := by decide +kernel
theorem dX9_comesYes_68 : decode cX9_comesYes 68 = .ok (.getfield 47, 3) := by decide +kernel
theorem dX9_comesYes_71 : decode cX9_comesYes 71 = .ok (.iload_n 1, 1) := by decide +kernel
theorem dX9_comesYes_72 : decode cX9_comesYes 72 = .ok (.iconst 0, 1) := by decide +kernel
theorem dX9_comesYes_73 : decode cX9_comesYes 73 = .ok (.iastore, 1) := by decide +kernel
theorem dX9_comesYes_74 : decode cX9_comesYes 74 = .ok (.return_, 1) := by decide +kernel
abbrev rm_X9_comesYes : Room := { frames := 0, cells := 0, slots := 0, locals := 0 }
def P_X9_comesYes (i1 : Int32) (i2 : Int32) (h : HP) (Q : HP → Prop) : Prop := (vp_in i1 4) ∧ ((((h.1 81 i1.toNatClampNeg) = 1) → ((vp_in i1 4) ∧ ((vp_in i1 4) ∧ ((vp_in i1 4) ∧ ((vp_in i1 4) ∧ ((vp_in i1 4) ∧ ((vp_in i1 4) ∧ ((vp_in i1 4) ∧ ((vp_in i1 4) ∧ ((vp_in i1 4) ∧ (Q (si (si (si (si (si (si (si (si (si h 81 i1.toNatClampNeg 2) 83 i1.toNatClampNeg i2) 86 i1.toNatClampNeg 0) 87 i1.toNatClampNeg 0) 92 i1.toNatClampNeg 0) 88 i1.toNatClampNeg 0) 89 i1.toNatClampNeg 0) 90 i1.toNatClampNeg 0) 91 i1.toNatClampNeg 0)))))))))))) ∧ ((¬ (h.1 81 i1.toNatClampNeg) = 1) → Q h))
set_option maxHeartbeats 4000000 in
theorem t_X9_comesYes {i1 : Int32} {i2 : Int32} {h : HP} {Q : HP → Prop}  (hp : P_X9_comesYes i1 i2 h Q) : MT yX9_comesYes cX9_comesYes 3 none rm_X9_comesYes [.ref 78, .int i1, .int i2] gM SH (emb h) (pV Q) := by
  refine MT.of (by decide +kernel) (Nat.le_of_ble_eq_true rfl) (fun C hC hE => ?_)
  show SW C gM 0 [(0, .ref 78), (1, .int i1), (2, .int i2)] [] h
  unfold P_X9_comesYes at hp
  refine x_aload_n hC dX9_comesYes_0 (lm 0 rfl) ?_
  refine s_getR (r := 81) hC dX9_comesYes_1 fk_9_16 ty_78 (fr_9_9 ty_78).1 ?_
  refine x_iload_n hC dX9_comesYes_4 (lm 1 rfl) ?_
  obtain ⟨ho, hp⟩ := hp
  refine s_iald hC dX9_comesYes_5 ((fr_9_9 ty_78).2) ho ?_
  refine x_iconst hC dX9_comesYes_6 ic_1 ?_
  refine x_icmp_eq (tgt := 11) hC dX9_comesYes_7 (by decide) (fun hc => ?_) (fun hc => ?_)
  · have hp := hp.1 hc
    refine x_aload_n hC dX9_comesYes_11 (lm 0 rfl) ?_
    refine s_getR (r := 81) hC dX9_comesYes_12 fk_9_16 ty_78 (fr_9_9 ty_78).1 ?_
    refine x_iload_n hC dX9_comesYes_15 (lm 1 rfl) ?_
    refine x_iconst hC dX9_comesYes_16 ic_2 ?_
    obtain ⟨ho, hp⟩ := hp
    refine s_iast hC dX9_comesYes_17 ((fr_9_9 ty_78).2) ho ?_
    refine x_aload_n hC dX9_comesYes_18 (lm 0 rfl) ?_
    refine s_getR (r := 83) hC dX9_comesYes_19 fk_9_22 ty_78 (fr_9_11 ty_78).1 ?_
    refine x_iload_n hC dX9_comesYes_22 (lm 1 rfl) ?_
    refine x_iload_n hC dX9_comesYes_23 (lm 2 rfl) ?_
    obtain ⟨ho, hp⟩ := hp
    refine s_iast hC dX9_comesYes_24 ((fr_9_11 ty_78).2) ho ?_
    refine x_aload_n hC dX9_comesYes_25 (lm 0 rfl) ?_
    refine s_getR (r := 86) hC dX9_comesYes_26 fk_9_31 ty_78 (fr_9_14 ty_78).1 ?_
    refine x_iload_n hC dX9_comesYes_29 (lm 1 rfl) ?_
    refine x_iconst hC dX9_comesYes_30 ic_0 ?_
    obtain ⟨ho, hp⟩ := hp
    refine s_iast hC dX9_comesYes_31 ((fr_9_14 ty_78).2) ho ?_
    refine x_aload_n hC dX9_comesYes_32 (lm 0 rfl) ?_
    refine s_getR (r := 87) hC dX9_comesYes_33 fk_9_34 ty_78 (fr_9_15 ty_78).1 ?_
    refine x_iload_n hC dX9_comesYes_36 (lm 1 rfl) ?_
    refine x_iconst hC dX9_comesYes_37 ic_0 ?_
    obtain ⟨ho, hp⟩ := hp
    refine s_iast hC dX9_comesYes_38 ((fr_9_15 ty_78).2) ho ?_
    refine x_aload_n hC dX9_comesYes_39 (lm 0 rfl) ?_
    refine s_getR (r := 92) hC dX9_comesYes_40 fk_9_50 ty_78 (fr_9_20 ty_78).1 ?_
    refine x_iload_n hC dX9_comesYes_43 (lm 1 rfl) ?_
    refine x_iconst hC dX9_comesYes_44 ic_0 ?_
    obtain ⟨ho, hp⟩ := hp
    refine s_iast hC dX9_comesYes_45 ((fr_9_20 ty_78).2) ho ?_
    refine x_aload_n hC dX9_comesYes_46 (lm 0 rfl) ?_
    refine s_getR (r := 88) hC dX9_comesYes_47 fk_9_37 ty_78 (fr_9_16 ty_78).1 ?_
    refine x_iload_n hC dX9_comesYes_50 (lm 1 rfl) ?_
    refine x_iconst hC dX9_comesYes_51 ic_0 ?_
    obtain ⟨ho, hp⟩ := hp
    refine s_zast (y := 0) hC dX9_comesYes_52 ((fr_9_16 ty_78).2) ho (by decide) ?_
    refine x_aload_n hC dX9_comesYes_53 (lm 0 rfl) ?_
    refine s_getR (r := 89) hC dX9_comesYes_54 fk_9_41 ty_78 (fr_9_17 ty_78).1 ?_
    refine x_iload_n hC dX9_comesYes_57 (lm 1 rfl) ?_
    refine x_iconst hC dX9_comesYes_58 ic_0 ?_
    obtain ⟨ho, hp⟩ := hp
    refine s_zast (y := 0) hC dX9_comesYes_59 ((fr_9_17 ty_78).2) ho (by decide) ?_
    refine x_aload_n hC dX9_comesYes_60 (lm 0 rfl) ?_
    refine s_getR (r := 90) hC dX9_comesYes_61 fk_9_44 ty_78 (fr_9_18 ty_78).1 ?_
    refine x_iload_n hC dX9_comesYes_64 (lm 1 rfl) ?_
    refine x_iconst hC dX9_comesYes_65 ic_0 ?_
    obtain ⟨ho, hp⟩ := hp
    refine s_zast (y := 0) hC dX9_comesYes_66 ((fr_9_18 ty_78).2) ho (by decide) ?_
    refine x_aload_n hC dX9_comesYes_67 (lm 0 rfl) ?_
    refine s_getR (r := 91) hC dX9_comesYes_68 fk_9_47 ty_78 (fr_9_19 ty_78).1 ?_
    refine x_iload_n hC dX9_comesYes_71 (lm 1 rfl) ?_
    refine x_iconst hC dX9_comesYes_72 ic_0 ?_
    obtain ⟨ho, hp⟩ := hp
    refine s_iast hC dX9_comesYes_73 ((fr_9_19 ty_78).2) ho ?_
    exact x_vret hC hE dX9_comesYes_74 ⟨_, rfl, rfl, hp⟩
  · have hp := hp.2 hc
    exact x_vret hC hE dX9_comesYes_10 ⟨_, rfl, rfl, hp⟩
theorem dX9_comesAnswer_0 : decode cX9_comesAnswer 0 = .ok (.aload_n 0, 1) := by decide +kernel
theorem dX9_comesAnswer_1 : decode cX9_comesAnswer 1 = .ok (.iload_n 1, 1) := by decide +kernel
theorem dX9_comesAnswer_2 : decode cX9_comesAnswer 2 = .ok (.invokevirtual 182, 3) := by decide +kernel
theorem dX9_comesAnswer_5 : decode cX9_comesAnswer 5 = .ok (.ifCond .eq 12, 3) := by decide +kernel
theorem dX9_comesAnswer_8 : decode cX9_comesAnswer 8 = .ok (.aload_n 0, 1) := by decide +kernel
theorem dX9_comesAnswer_9 : decode cX9_comesAnswer 9 = .ok (.getfield 37, 3) := by decide +kernel
theorem dX9_comesAnswer_12 : decode cX9_comesAnswer 12 = .ok (.iload_n 1, 1) := by decide +kernel
theorem dX9_comesAnswer_13 : decode cX9_comesAnswer 13 = .ok (.baload, 1) := by decide +kernel
theorem dX9_comesAnswer_14 : decode cX9_comesAnswer 14 = .ok (.ifCond .ne 4, 3) := by decide +kernel
theorem dX9_comesAnswer_17 : decode cX9_comesAnswer 17 = .ok (.return_, 1) := by decide +kernel
theorem dX9_comesAnswer_18 : decode cX9_comesAnswer 18 = .ok (.iconst 0, 1) := by decide +kernel
theorem dX9_comesAnswer_19 : decode cX9_comesAnswer 19 = .ok (.istore 4, 2) := by decide +kernel
theorem dX9_comesAnswer_21 : decode cX9_comesAnswer 21 = .ok (.iload 4, 2) := by decide +kernel
theorem dX9_comesAnswer_23 : decode cX9_comesAnswer 23 = .ok (.aload_n 0, 1) := by decide +kernel
theorem dX9_comesAnswer_24 : decode cX9_comesAnswer 24 = .ok (.getfield 31, 3) := by decide +kernel
theorem dX9_comesAnswer_27 : decode cX9_comesAnswer 27 = .ok (.iload_n 1, 1) := by decide +kernel
theorem dX9_comesAnswer_28 : decode cX9_comesAnswer 28 = .ok (.iaload, 1) := by decide +kernel
theorem dX9_comesAnswer_29 : decode cX9_comesAnswer 29 = .ok (.aload_n 0, 1) := by decide +kernel
theorem dX9_comesAnswer_30 : decode cX9_comesAnswer 30 = .ok (.getfield 34, 3) := by decide +kernel
theorem dX9_comesAnswer_33 : decode cX9_comesAnswer 33 = .ok (.iload_n 1, 1) := by decide +kernel
theorem dX9_comesAnswer_34 : decode cX9_comesAnswer 34 = .ok (.iaload, 1) := by decide +kernel
theorem dX9_comesAnswer_35 : decode cX9_comesAnswer 35 = .ok (.invokestatic 119, 3) := by decide +kernel
theorem dX9_comesAnswer_38 : decode cX9_comesAnswer 38 = .ok (.if_icmp .ge 84, 3) := by decide +kernel
theorem dX9_comesAnswer_41 : decode cX9_comesAnswer 41 = .ok (.aload_n 0, 1) := by decide +kernel
theorem dX9_comesAnswer_42 : decode cX9_comesAnswer 42 = .ok (.getfield 31, 3) := by decide +kernel
theorem dX9_comesAnswer_45 : decode cX9_comesAnswer 45 = .ok (.iload_n 1, 1) := by decide +kernel
theorem dX9_comesAnswer_46 : decode cX9_comesAnswer 46 = .ok (.iaload, 1) := by decide +kernel
theorem dX9_comesAnswer_47 : decode cX9_comesAnswer 47 = .ok (.iload 4, 2) := by decide +kernel
theorem dX9_comesAnswer_49 : decode cX9_comesAnswer 49 = .ok (.iadd, 1) := by decide +kernel
theorem dX9_comesAnswer_50 : decode cX9_comesAnswer 50 = .ok (.bipush 64, 2) := by decide +kernel
theorem dX9_comesAnswer_52 : decode cX9_comesAnswer 52 = .ok (.irem, 1) := by decide +kernel
theorem dX9_comesAnswer_53 : decode cX9_comesAnswer 53 = .ok (.istore 5, 2) := by decide +kernel
theorem dX9_comesAnswer_55 : decode cX9_comesAnswer 55 = .ok (.iload_n 2, 1) := by decide +kernel
theorem dX9_comesAnswer_56 : decode cX9_comesAnswer 56 = .ok (.iload 5, 2) := by decide +kernel
theorem dX9_comesAnswer_58 : decode cX9_comesAnswer 58 = .ok (.invokestatic 119, 3) := by decide +kernel
theorem dX9_comesAnswer_61 : decode cX9_comesAnswer 61 = .ok (.istore 6, 2) := by decide +kernel
theorem dX9_comesAnswer_63 : decode cX9_comesAnswer 63 = .ok (.aload_n 0, 1) := by decide +kernel
theorem dX9_comesAnswer_64 : decode cX9_comesAnswer 64 = .ok (.getfield 68, 3) := by decide +kernel
theorem dX9_comesAnswer_67 : decode cX9_comesAnswer 67 = .ok (.bipush 64, 2) := by decide +kernel
theorem dX9_comesAnswer_69 : decode cX9_comesAnswer 69 = .ok (.iload_n 1, 1) := by decide +kernel
theorem dX9_comesAnswer_70 : decode cX9_comesAnswer 70 = .ok (.imul, 1) := by decide +kernel
theorem dX9_comesAnswer_71 : decode cX9_comesAnswer 71 = .ok (.iload 5, 2) := by decide +kernel
theorem dX9_comesAnswer_73 : decode cX9_comesAnswer 73 = .ok (.iadd, 1) := by decide +kernel
theorem dX9_comesAnswer_74 : decode cX9_comesAnswer 74 = .ok (.aload_n 0, 1) := by decide +kernel
theorem dX9_comesAnswer_75 : decode cX9_comesAnswer 75 = .ok (.getfield 68, 3) := by decide +kernel
theorem dX9_comesAnswer_78 : decode cX9_comesAnswer 78 = .ok (.bipush 64, 2) := by decide +kernel
theorem dX9_comesAnswer_80 : decode cX9_comesAnswer 80 = .ok (.iload_n 1, 1) := by decide +kernel
theorem dX9_comesAnswer_81 : decode cX9_comesAnswer 81 = .ok (.imul, 1) := by decide +kernel
theorem dX9_comesAnswer_82 : decode cX9_comesAnswer 82 = .ok (.iload 5, 2) := by decide +kernel
theorem dX9_comesAnswer_84 : decode cX9_comesAnswer 84 = .ok (.iadd, 1) := by decide +kernel
theorem dX9_comesAnswer_85 : decode cX9_comesAnswer 85 = .ok (.baload, 1) := by decide +kernel
theorem dX9_comesAnswer_86 : decode cX9_comesAnswer 86 = .ok (.ifCond .ne 24, 3) := by decide +kernel
theorem dX9_comesAnswer_89 : decode cX9_comesAnswer 89 = .ok (.iload 6, 2) := by decide +kernel
theorem dX9_comesAnswer_91 : decode cX9_comesAnswer 91 = .ok (.aload_n 0, 1) := by decide +kernel
theorem dX9_comesAnswer_92 : decode cX9_comesAnswer 92 = .ok (.getfield 22, 3) := by decide +kernel
theorem dX9_comesAnswer_95 : decode cX9_comesAnswer 95 = .ok (.iload_n 1, 1) := by decide +kernel
theorem dX9_comesAnswer_96 : decode cX9_comesAnswer 96 = .ok (.iaload, 1) := by decide +kernel
theorem dX9_comesAnswer_97 : decode cX9_comesAnswer 97 = .ok (.if_icmp .ge 17, 3) := by decide +kernel
theorem dX9_comesAnswer_100 : decode cX9_comesAnswer 100 = .ok (.iload_n 3, 1) := by decide +kernel
theorem dX9_comesAnswer_101 : decode cX9_comesAnswer 101 = .ok (.iload 6, 2) := by decide +kernel
theorem dX9_comesAnswer_103 : decode cX9_comesAnswer 103 = .ok (.ishr, 1) := by decide +kernel
theorem dX9_comesAnswer_104 : decode cX9_comesAnswer 104 = .ok (.iconst 1, 1) := by decide +kernel
theorem dX9_comesAnswer_105 : decode cX9_comesAnswer 105 = .ok (.iand, 1) := by decide +kernel
theorem dX9_comesAnswer_106 : decode cX9_comesAnswer 106 = .ok (.iconst 1, 1) := by decide +kernel
theorem dX9_comesAnswer_107 : decode cX9_comesAnswer 107 = .ok (.if_icmp .ne 7, 3) := by decide +kernel
theorem dX9_comesAnswer_110 : decode cX9_comesAnswer 110 = .ok (.iconst 1, 1) := by decide +kernel
theorem dX9_comesAnswer_111 : decode cX9_comesAnswer 111 = .ok (.goto 4, 3) := by decide +kernel
theorem dX9_comesAnswer_114 : decode cX9_comesAnswer 114 = .ok (.iconst 0, 1) := by decide +kernel
theorem dX9_comesAnswer_115 : decode cX9_comesAnswer 115 = .ok (.bastore, 1) := by decide +kernel
theorem dX9_comesAnswer_116 : decode cX9_comesAnswer 116 = .ok (.iinc 4 1, 3) := by decide +kernel
theorem dX9_comesAnswer_119 : decode cX9_comesAnswer 119 = .ok (.goto (-98), 3) := by decide +kernel
theorem dX9_comesAnswer_122 : decode cX9_comesAnswer 122 = .ok (.aload_n 0, 1) := by decide +kernel
theorem dX9_comesAnswer_123 : decode cX9_comesAnswer 123 = .ok (.iload_n 1, 1) := by decide +kernel
theorem dX9_comesAnswer_124 : decode cX9_comesAnswer 124 = .ok (.invokevirtual 229, 3) := by decide +kernel
theorem dX9_comesAnswer_127 : decode cX9_comesAnswer 127 = .ok (.return_, 1) := by decide +kernel
abbrev rm_X9_comesAnswer : Room := { frames := 2, cells := 0, slots := 0, locals := 45 }
def P_X9_comesAnswer (i1 : Int32) (i2 : Int32) (i3 : Int32) (h : HP) (Q : HP → Prop) : Prop := P_X9_isOpen i1 h (fun (v_2 : Int32) (h_2 : HP) => ((v_2 = 0) → Q h_2) ∧ ((¬ v_2 = 0) → ((vp_in i1 4) ∧ (((¬ (h_2.1 88 i1.toNatClampNeg) = 0) → (Lp2 (fun X_21 (i4_21 : Int32) (h_21 : HP) => (vp_in i1 4) ∧ ((vp_in i1 4) ∧ (P_X9_ahead (h_21.1 86 i1.toNatClampNeg) (h_21.1 87 i1.toNatClampNeg) h_21 (fun (v_35 : Int32) (h_35 : HP) => ((v_35 ≤ i4_21) → (P_X9_giveUp i1 h_35 (fun (h_124 : HP) => Q h_124))) ∧ ((¬ v_35 ≤ i4_21) → ((vp_in i1 4) ∧ (P_X9_ahead i2 (((h_35.1 86 i1.toNatClampNeg) + i4_21) - ((h_35.1 86 i1.toNatClampNeg) + i4_21) / 64 * 64) h_35 (fun (v_58 : Int32) (h_58 : HP) => (vp_in ((64 * i1) + (((h_35.1 86 i1.toNatClampNeg) + i4_21) - ((h_35.1 86 i1.toNatClampNeg) + i4_21) / 64 * 64)) 256) ∧ (((¬ (h_58.1 98 ((64 * i1) + (((h_35.1 86 i1.toNatClampNeg) + i4_21) - ((h_35.1 86 i1.toNatClampNeg) + i4_21) / 64 * 64)).toNatClampNeg) = 0) → ((vp_in ((64 * i1) + (((h_35.1 86 i1.toNatClampNeg) + i4_21) - ((h_35.1 86 i1.toNatClampNeg) + i4_21) / 64 * 64)) 256) ∧ (X_21 (i4_21 + 1) (si h_58 98 ((64 * i1) + (((h_35.1 86 i1.toNatClampNeg) + i4_21) - ((h_35.1 86 i1.toNatClampNeg) + i4_21) / 64 * 64)).toNatClampNeg 1)))) ∧ (((h_58.1 98 ((64 * i1) + (((h_35.1 86 i1.toNatClampNeg) + i4_21) - ((h_35.1 86 i1.toNatClampNeg) + i4_21) / 64 * 64)).toNatClampNeg) = 0) → ((vp_in i1 4) ∧ ((((h_58.1 83 i1.toNatClampNeg) ≤ v_58) → ((vp_in ((64 * i1) + (((h_35.1 86 i1.toNatClampNeg) + i4_21) - ((h_35.1 86 i1.toNatClampNeg) + i4_21) / 64 * 64)) 256) ∧ (X_21 (i4_21 + 1) (si h_58 98 ((64 * i1) + (((h_35.1 86 i1.toNatClampNeg) + i4_21) - ((h_35.1 86 i1.toNatClampNeg) + i4_21) / 64 * 64)).toNatClampNeg 0)))) ∧ ((¬ (h_58.1 83 i1.toNatClampNeg) ≤ v_58) → (((¬ ((i3 >>> (v_58 &&& 31)) &&& 1) = 1) → ((vp_in ((64 * i1) + (((h_35.1 86 i1.toNatClampNeg) + i4_21) - ((h_35.1 86 i1.toNatClampNeg) + i4_21) / 64 * 64)) 256) ∧ (X_21 (i4_21 + 1) (si h_58 98 ((64 * i1) + (((h_35.1 86 i1.toNatClampNeg) + i4_21) - ((h_35.1 86 i1.toNatClampNeg) + i4_21) / 64 * 64)).toNatClampNeg 0)))) ∧ ((((i3 >>> (v_58 &&& 31)) &&& 1) = 1) → ((vp_in ((64 * i1) + (((h_35.1 86 i1.toNatClampNeg) + i4_21) - ((h_35.1 86 i1.toNatClampNeg) + i4_21) / 64 * 64)) 256) ∧ (X_21 (i4_21 + 1) (si h_58 98 ((64 * i1) + (((h_35.1 86 i1.toNatClampNeg) + i4_21) - ((h_35.1 86 i1.toNatClampNeg) + i4_21) / 64 * 64)).toNatClampNeg 1)))))))))))))))))) 0 h_2)) ∧ (((h_2.1 88 i1.toNatClampNeg) = 0) → Q h_2)))))
set_option maxHeartbeats 4000000 in
theorem t_X9_comesAnswer {i1 : Int32} {i2 : Int32} {i3 : Int32} {h : HP} {Q : HP → Prop}  (hp : P_X9_comesAnswer i1 i2 i3 h Q) : MT yX9_comesAnswer cX9_comesAnswer 7 none rm_X9_comesAnswer [.ref 78, .int i1, .int i2, .int i3] gM SH (emb h) (pV Q) := by
  refine MT.of (by decide +kernel) (Nat.le_of_ble_eq_true rfl) (fun C hC hE => ?_)
  show SW C gM 0 [(0, .ref 78), (1, .int i1), (2, .int i2), (3, .int i3)] [] h
  unfold P_X9_comesAnswer at hp
  refine x_aload_n hC dX9_comesAnswer_0 (lm 0 rfl) ?_
  refine x_iload_n hC dX9_comesAnswer_1 (lm 1 rfl) ?_
  refine s_callVi (avs := [.int i1]) (st := []) hC dX9_comesAnswer_2 ml_9_182 mi_X9_isOpen ty_78 rfl (t_X9_isOpen  hp) (Nat.le_of_ble_eq_true rfl) ⟨rfl, rfl⟩ ⟨Nat.le_of_ble_eq_true rfl, Nat.le_of_ble_eq_true rfl⟩ (fun v_2 h_2 hp => ?_)
  refine x_if_eq (tgt := 17) hC dX9_comesAnswer_5 (by decide) (fun hc => ?_) (fun hc => ?_)
  · have hp := hp.1 hc
    exact x_vret hC hE dX9_comesAnswer_17 ⟨_, rfl, rfl, hp⟩
  · have hp := hp.2 hc
    refine x_aload_n hC dX9_comesAnswer_8 (lm 0 rfl) ?_
    refine s_getR (r := 88) hC dX9_comesAnswer_9 fk_9_37 ty_78 (fr_9_16 ty_78).1 ?_
    refine x_iload_n hC dX9_comesAnswer_12 (lm 1 rfl) ?_
    obtain ⟨ho, hp⟩ := hp
    refine s_zald hC dX9_comesAnswer_13 ((fr_9_16 ty_78).2) ho ?_
    refine x_if_ne (tgt := 18) hC dX9_comesAnswer_14 (by decide) (fun hc => ?_) (fun hc => ?_)
    · have hp := hp.1 hc
      refine x_iconst hC dX9_comesAnswer_18 ic_0 ?_
      refine x_istore (lv' := [(4, .int 0), (0, .ref 78), (1, .int i1), (2, .int i2), (3, .int i3)]) hC dX9_comesAnswer_19 (by decide) rfl ?_
      refine x_subk (lv' := [(0, .ref 78), (1, .int i1), (2, .int i2), (3, .int i3), (4, .int 0)]) [1, 2, 3, 4, 0] rfl ?_
      refine hp (fun i4_21 h_21 => SW C gM 21 [(0, .ref 78), (1, .int i1), (2, .int i2), (3, .int i3), (4, .int i4_21)] [] h_21) (fun i4_21 h_21 hp => ?_)
      refine x_iload hC dX9_comesAnswer_21 (lm 4 rfl) ?_
      refine x_aload_n hC dX9_comesAnswer_23 (lm 0 rfl) ?_
      refine s_getR (r := 86) hC dX9_comesAnswer_24 fk_9_31 ty_78 (fr_9_14 ty_78).1 ?_
      refine x_iload_n hC dX9_comesAnswer_27 (lm 1 rfl) ?_
      obtain ⟨ho, hp⟩ := hp
      refine s_iald hC dX9_comesAnswer_28 ((fr_9_14 ty_78).2) ho ?_
      refine x_aload_n hC dX9_comesAnswer_29 (lm 0 rfl) ?_
      refine s_getR (r := 87) hC dX9_comesAnswer_30 fk_9_34 ty_78 (fr_9_15 ty_78).1 ?_
      refine x_iload_n hC dX9_comesAnswer_33 (lm 1 rfl) ?_
      obtain ⟨ho, hp⟩ := hp
      refine s_iald hC dX9_comesAnswer_34 ((fr_9_15 ty_78).2) ho ?_
      refine s_callSi (avs := [.int (h_21.1 86 i1.toNatClampNeg), .int (h_21.1 87 i1.toNatClampNeg)]) (st := [.int i4_21]) hC dX9_comesAnswer_35 ml_9_119 ms_X9_ahead rfl (t_X9_ahead  hp) (Nat.le_of_ble_eq_true rfl) ⟨rfl, rfl⟩ ⟨Nat.le_of_ble_eq_true rfl, Nat.le_of_ble_eq_true rfl⟩ (fun v_35 h_35 hp => ?_)
      refine x_icmp_ge (tgt := 122) hC dX9_comesAnswer_38 (by decide) (fun hc => ?_) (fun hc => ?_)
      · have hp := hp.1 hc
        refine x_aload_n hC dX9_comesAnswer_122 (lm 0 rfl) ?_
        refine x_iload_n hC dX9_comesAnswer_123 (lm 1 rfl) ?_
        refine s_callVv (avs := [.int i1]) (st := []) hC dX9_comesAnswer_124 ml_9_229 mi_X9_giveUp ty_78 rfl (t_X9_giveUp  hp) (Nat.le_of_ble_eq_true rfl) ⟨rfl, rfl⟩ ⟨Nat.le_of_ble_eq_true rfl, Nat.le_of_ble_eq_true rfl⟩ (fun h_124 hp => ?_)
        exact x_vret hC hE dX9_comesAnswer_127 ⟨_, rfl, rfl, hp⟩
      · have hp := hp.2 hc
        refine x_aload_n hC dX9_comesAnswer_41 (lm 0 rfl) ?_
        refine s_getR (r := 86) hC dX9_comesAnswer_42 fk_9_31 ty_78 (fr_9_14 ty_78).1 ?_
        refine x_iload_n hC dX9_comesAnswer_45 (lm 1 rfl) ?_
        obtain ⟨ho, hp⟩ := hp
        refine s_iald hC dX9_comesAnswer_46 ((fr_9_14 ty_78).2) ho ?_
        refine x_iload hC dX9_comesAnswer_47 (lm 4 rfl) ?_
        refine x_iadd hC dX9_comesAnswer_49 ?_
        refine x_bipush hC dX9_comesAnswer_50 bp_64 ?_
        refine x_irem hC dX9_comesAnswer_52 (by decide) ?_
        refine x_istore (lv' := [(5, .int (((h_35.1 86 i1.toNatClampNeg) + i4_21) - ((h_35.1 86 i1.toNatClampNeg) + i4_21) / 64 * 64)), (0, .ref 78), (1, .int i1), (2, .int i2), (3, .int i3), (4, .int i4_21)]) hC dX9_comesAnswer_53 (by decide) rfl ?_
        refine x_iload_n hC dX9_comesAnswer_55 (lm 3 rfl) ?_
        refine x_iload hC dX9_comesAnswer_56 (lm 0 rfl) ?_
        refine s_callSi (avs := [.int i2, .int (((h_35.1 86 i1.toNatClampNeg) + i4_21) - ((h_35.1 86 i1.toNatClampNeg) + i4_21) / 64 * 64)]) (st := []) hC dX9_comesAnswer_58 ml_9_119 ms_X9_ahead rfl (t_X9_ahead  hp) (Nat.le_of_ble_eq_true rfl) ⟨rfl, rfl⟩ ⟨Nat.le_of_ble_eq_true rfl, Nat.le_of_ble_eq_true rfl⟩ (fun v_58 h_58 hp => ?_)
        refine x_istore (lv' := [(6, .int v_58), (5, .int (((h_35.1 86 i1.toNatClampNeg) + i4_21) - ((h_35.1 86 i1.toNatClampNeg) + i4_21) / 64 * 64)), (0, .ref 78), (1, .int i1), (2, .int i2), (3, .int i3), (4, .int i4_21)]) hC dX9_comesAnswer_61 (by decide) rfl ?_
        refine x_aload_n hC dX9_comesAnswer_63 (lm 2 rfl) ?_
        refine s_getR (r := 98) hC dX9_comesAnswer_64 fk_9_68 ty_78 (fr_9_26 ty_78).1 ?_
        refine x_bipush hC dX9_comesAnswer_67 bp_64 ?_
        refine x_iload_n hC dX9_comesAnswer_69 (lm 3 rfl) ?_
        refine x_imul hC dX9_comesAnswer_70 ?_
        refine x_iload hC dX9_comesAnswer_71 (lm 1 rfl) ?_
        refine x_iadd hC dX9_comesAnswer_73 ?_
        refine x_aload_n hC dX9_comesAnswer_74 (lm 2 rfl) ?_
        refine s_getR (r := 98) hC dX9_comesAnswer_75 fk_9_68 ty_78 (fr_9_26 ty_78).1 ?_
        refine x_bipush hC dX9_comesAnswer_78 bp_64 ?_
        refine x_iload_n hC dX9_comesAnswer_80 (lm 3 rfl) ?_
        refine x_imul hC dX9_comesAnswer_81 ?_
        refine x_iload hC dX9_comesAnswer_82 (lm 1 rfl) ?_
        refine x_iadd hC dX9_comesAnswer_84 ?_
        obtain ⟨ho, hp⟩ := hp
        refine s_zald hC dX9_comesAnswer_85 ((fr_9_26 ty_78).2) ho ?_
        refine x_if_ne (tgt := 110) hC dX9_comesAnswer_86 (by decide) (fun hc => ?_) (fun hc => ?_)
        · have hp := hp.1 hc
          refine x_iconst hC dX9_comesAnswer_110 ic_1 ?_
          refine x_goto (tgt := 115) hC dX9_comesAnswer_111 (by decide) ?_
          obtain ⟨ho, hp⟩ := hp
          refine s_zast (y := 1) hC dX9_comesAnswer_115 ((fr_9_26 ty_78).2) ho (by decide) ?_
          refine x_iinc (u := i4_21 + 1) (lv' := [(4, .int (i4_21 + 1)), (6, .int v_58), (5, .int (((h_35.1 86 i1.toNatClampNeg) + i4_21) - ((h_35.1 86 i1.toNatClampNeg) + i4_21) / 64 * 64)), (0, .ref 78), (1, .int i1), (2, .int i2), (3, .int i3)]) hC dX9_comesAnswer_116 (lm 6 rfl) (congrArg _ ic_1) (by decide) rfl ?_
          refine x_goto (tgt := 21) hC dX9_comesAnswer_119 (by decide) ?_
          exact x_subk [3, 4, 5, 6, 0] rfl hp
        · have hp := hp.2 hc
          refine x_iload hC dX9_comesAnswer_89 (lm 0 rfl) ?_
          refine x_aload_n hC dX9_comesAnswer_91 (lm 2 rfl) ?_
          refine s_getR (r := 83) hC dX9_comesAnswer_92 fk_9_22 ty_78 (fr_9_11 ty_78).1 ?_
          refine x_iload_n hC dX9_comesAnswer_95 (lm 3 rfl) ?_
          obtain ⟨ho, hp⟩ := hp
          refine s_iald hC dX9_comesAnswer_96 ((fr_9_11 ty_78).2) ho ?_
          refine x_icmp_ge (tgt := 114) hC dX9_comesAnswer_97 (by decide) (fun hc => ?_) (fun hc => ?_)
          · have hp := hp.1 hc
            refine x_iconst hC dX9_comesAnswer_114 ic_0 ?_
            obtain ⟨ho, hp⟩ := hp
            refine s_zast (y := 0) hC dX9_comesAnswer_115 ((fr_9_26 ty_78).2) ho (by decide) ?_
            refine x_iinc (u := i4_21 + 1) (lv' := [(4, .int (i4_21 + 1)), (6, .int v_58), (5, .int (((h_35.1 86 i1.toNatClampNeg) + i4_21) - ((h_35.1 86 i1.toNatClampNeg) + i4_21) / 64 * 64)), (0, .ref 78), (1, .int i1), (2, .int i2), (3, .int i3)]) hC dX9_comesAnswer_116 (lm 6 rfl) (congrArg _ ic_1) (by decide) rfl ?_
            refine x_goto (tgt := 21) hC dX9_comesAnswer_119 (by decide) ?_
            exact x_subk [3, 4, 5, 6, 0] rfl hp
          · have hp := hp.2 hc
            refine x_iload_n hC dX9_comesAnswer_100 (lm 5 rfl) ?_
            refine x_iload hC dX9_comesAnswer_101 (lm 0 rfl) ?_
            refine x_ishr hC dX9_comesAnswer_103 ?_
            refine x_iconst hC dX9_comesAnswer_104 ic_1 ?_
            refine x_iand hC dX9_comesAnswer_105 ?_
            refine x_iconst hC dX9_comesAnswer_106 ic_1 ?_
            refine x_icmp_ne (tgt := 114) hC dX9_comesAnswer_107 (by decide) (fun hc => ?_) (fun hc => ?_)
            · have hp := hp.1 hc
              refine x_iconst hC dX9_comesAnswer_114 ic_0 ?_
              obtain ⟨ho, hp⟩ := hp
              refine s_zast (y := 0) hC dX9_comesAnswer_115 ((fr_9_26 ty_78).2) ho (by decide) ?_
              refine x_iinc (u := i4_21 + 1) (lv' := [(4, .int (i4_21 + 1)), (6, .int v_58), (5, .int (((h_35.1 86 i1.toNatClampNeg) + i4_21) - ((h_35.1 86 i1.toNatClampNeg) + i4_21) / 64 * 64)), (0, .ref 78), (1, .int i1), (2, .int i2), (3, .int i3)]) hC dX9_comesAnswer_116 (lm 6 rfl) (congrArg _ ic_1) (by decide) rfl ?_
              refine x_goto (tgt := 21) hC dX9_comesAnswer_119 (by decide) ?_
              exact x_subk [3, 4, 5, 6, 0] rfl hp
            · have hp := hp.2 hc
              refine x_iconst hC dX9_comesAnswer_110 ic_1 ?_
              refine x_goto (tgt := 115) hC dX9_comesAnswer_111 (by decide) ?_
              obtain ⟨ho, hp⟩ := hp
              refine s_zast (y := 1) hC dX9_comesAnswer_115 ((fr_9_26 ty_78).2) ho (by decide) ?_
              refine x_iinc (u := i4_21 + 1) (lv' := [(4, .int (i4_21 + 1)), (6, .int v_58), (5, .int (((h_35.1 86 i1.toNatClampNeg) + i4_21) - ((h_35.1 86 i1.toNatClampNeg) + i4_21) / 64 * 64)), (0, .ref 78), (1, .int i1), (2, .int i2), (3, .int i3)]) hC dX9_comesAnswer_116 (lm 6 rfl) (congrArg _ ic_1) (by decide) rfl ?_
              refine x_goto (tgt := 21) hC dX9_comesAnswer_119 (by decide) ?_
              exact x_subk [3, 4, 5, 6, 0] rfl hp
    · have hp := hp.2 hc
      exact x_vret hC hE dX9_comesAnswer_17 ⟨_, rfl, rfl, hp⟩
theorem dX9_releases_0 : decode cX9_releases 0 = .ok (.bipush 9, 2) := by decide +kernel
theorem dX9_releases_2 : decode cX9_releases 2 = .ok (.istore_n 3, 1) := by decide +kernel
theorem dX9_releases_3 : decode cX9_releases 3 = .ok (.iload_n 3, 1) := by decide +kernel
theorem dX9_releases_4 : decode cX9_releases 4 = .ok (.ifCond .le 33, 3) := by decide +kernel
theorem dX9_releases_7 : decode cX9_releases 7 = .ok (.aload_n 0, 1) := by decide +kernel
theorem dX9_releases_8 : decode cX9_releases 8 = .ok (.getfield 104, 3) := by decide +kernel
theorem dX9_releases_11 : decode cX9_releases 11 = .ok (.bipush 10, 2) := by decide +kernel
theorem dX9_releases_13 : decode cX9_releases 13 = .ok (.iload_n 1, 1) := by decide +kernel
theorem dX9_releases_14 : decode cX9_releases 14 = .ok (.imul, 1) := by decide +kernel
theorem dX9_releases_15 : decode cX9_releases 15 = .ok (.iload_n 3, 1) := by decide +kernel
theorem dX9_releases_16 : decode cX9_releases 16 = .ok (.iadd, 1) := by decide +kernel
theorem dX9_releases_17 : decode cX9_releases 17 = .ok (.aload_n 0, 1) := by decide +kernel
theorem dX9_releases_18 : decode cX9_releases 18 = .ok (.getfield 104, 3) := by decide +kernel
theorem dX9_releases_21 : decode cX9_releases 21 = .ok (.bipush 10, 2) := by decide +kernel
theorem dX9_releases_23 : decode cX9_releases 23 = .ok (.iload_n 1, 1) := by decide +kernel
theorem dX9_releases_24 : decode cX9_releases 24 = .ok (.imul, 1) := by decide +kernel
theorem dX9_releases_25 : decode cX9_releases 25 = .ok (.iload_n 3, 1) := by decide +kernel
theorem dX9_releases_26 : decode cX9_releases 26 = .ok (.iadd, 1) := by decide +kernel
theorem dX9_releases_27 : decode cX9_releases 27 = .ok (.iconst 1, 1) := by decide +kernel
theorem dX9_releases_28 : decode cX9_releases 28 = .ok (.isub, 1) := by decide +kernel
theorem dX9_releases_29 : decode cX9_releases 29 = .ok (.iaload, 1) := by decide +kernel
theorem dX9_releases_30 : decode cX9_releases 30 = .ok (.iastore, 1) := by decide +kernel
theorem dX9_releases_31 : decode cX9_releases 31 = .ok (.iinc 3 (-1), 3) := by decide +kernel
theorem dX9_releases_34 : decode cX9_releases 34 = .ok (.goto (-31), 3) := by decide +kernel
theorem dX9_releases_37 : decode cX9_releases 37 = .ok (.aload_n 0, 1) := by decide +kernel
theorem dX9_releases_38 : decode cX9_releases 38 = .ok (.getfield 104, 3) := by decide +kernel
theorem dX9_releases_41 : decode cX9_releases 41 = .ok (.bipush 10, 2) := by decide +kernel
theorem dX9_releases_43 : decode cX9_releases 43 = .ok (.iload_n 1, 1) := by decide +kernel
theorem dX9_releases_44 : decode cX9_releases 44 = .ok (.imul, 1) := by decide +kernel
theorem dX9_releases_45 : decode cX9_releases 45 = .ok (.iload_n 2, 1) := by decide +kernel
theorem dX9_releases_46 : decode cX9_releases 46 = .ok (.iastore, 1) := by decide +kernel
theorem dX9_releases_47 : decode cX9_releases 47 = .ok (.aload_n 0, 1) := by decide +kernel
theorem dX9_releases_48 : decode cX9_releases 48 = .ok (.getfield 101, 3) := by decide +kernel
theorem dX9_releases_51 : decode cX9_releases 51 = .ok (.iload_n 1, 1) := by decide +kernel
theorem dX9_releases_52 : decode cX9_releases 52 = .ok (.aload_n 0, 1) := by decide +kernel
theorem dX9_releases_53 : decode cX9_releases 53 = .ok (.getfield 101, 3) := by decide +kernel
theorem dX9_releases_56 : decode cX9_releases 56 = .ok (.iload_n 1, 1) := by decide +kernel
theorem dX9_releases_57 : decode cX9_releases 57 = .ok (.iaload, 1) := by decide +kernel
theorem dX9_releases_58 : decode cX9_releases 58 = .ok (.bipush 10, 2) := by decide +kernel
theorem dX9_releases_60 : decode cX9_releases 60 = .ok (.if_icmp .ge 14, 3) := by decide +kernel
theorem dX9_releases_63 : decode cX9_releases 63 = .ok (.aload_n 0, 1) := by decide +kernel
theorem dX9_releases_64 : decode cX9_releases 64 = .ok (.getfield 101, 3) := by decide +kernel
theorem dX9_releases_67 : decode cX9_releases 67 = .ok (.iload_n 1, 1) := by decide +kernel
theorem dX9_releases_68 : decode cX9_releases 68 = .ok (.iaload, 1) := by decide +kernel
theorem dX9_releases_69 : decode cX9_releases 69 = .ok (.iconst 1, 1) := by decide +kernel
theorem dX9_releases_70 : decode cX9_releases 70 = .ok (.iadd, 1) := by decide +kernel
theorem dX9_releases_71 : decode cX9_releases 71 = .ok (.goto 5, 3) := by decide +kernel
theorem dX9_releases_74 : decode cX9_releases 74 = .ok (.bipush 10, 2) := by decide +kernel
theorem dX9_releases_76 : decode cX9_releases 76 = .ok (.iastore, 1) := by decide +kernel
theorem dX9_releases_77 : decode cX9_releases 77 = .ok (.aload_n 0, 1) := by decide +kernel
theorem dX9_releases_78 : decode cX9_releases 78 = .ok (.getfield 13, 3) := by decide +kernel
theorem dX9_releases_81 : decode cX9_releases 81 = .ok (.iconst 4, 1) := by decide +kernel
theorem dX9_releases_82 : decode cX9_releases 82 = .ok (.dup2, 1) := by decide +kernel
theorem dX9_releases_83 : decode cX9_releases 83 = .ok (.iaload, 1) := by decide +kernel
theorem dX9_releases_84 : decode cX9_releases 84 = .ok (.iconst 1, 1) := by decide +kernel
theorem dX9_releases_85 : decode cX9_releases 85 = .ok (.iadd, 1) := by decide +kernel
theorem dX9_releases_86 : decode cX9_releases 86 = .ok (.iastore, 1) := by decide +kernel
theorem dX9_releases_87 : decode cX9_releases 87 = .ok (.return_, 1) := by decide +kernel
abbrev rm_X9_releases : Room := { frames := 0, cells := 0, slots := 0, locals := 0 }
def P_X9_releases_j77 (_q0 : Nat) (h : HP)  (Q : HP → Prop) : Prop := Q (si h 80 4 ((h.1 80 4) + 1))
def P_X9_releases (i1 : Int32) (i2 : Int32) (h : HP) (Q : HP → Prop) : Prop := Lp2 (fun X_3 (i3_3 : Int32) (h_3 : HP) => ((i3_3 ≤ 0) → ((vp_in (10 * i1) 40) ∧ ((vp_in i1 4) ∧ (((10 ≤ ((si h_3 110 (10 * i1).toNatClampNeg i2).1 109 i1.toNatClampNeg)) → ((vp_in i1 4) ∧ (P_X9_releases_j77 78 (si (si h_3 110 (10 * i1).toNatClampNeg i2) 109 i1.toNatClampNeg 10) Q))) ∧ ((¬ 10 ≤ ((si h_3 110 (10 * i1).toNatClampNeg i2).1 109 i1.toNatClampNeg)) → ((vp_in i1 4) ∧ ((vp_in i1 4) ∧ (P_X9_releases_j77 78 (si (si h_3 110 (10 * i1).toNatClampNeg i2) 109 i1.toNatClampNeg (((si h_3 110 (10 * i1).toNatClampNeg i2).1 109 i1.toNatClampNeg) + 1)) Q)))))))) ∧ ((¬ i3_3 ≤ 0) → ((vp_in (((10 * i1) + i3_3) - 1) 40) ∧ ((vp_in ((10 * i1) + i3_3) 40) ∧ (X_3 (i3_3 + (-1)) (si h_3 110 ((10 * i1) + i3_3).toNatClampNeg (h_3.1 110 (((10 * i1) + i3_3) - 1).toNatClampNeg))))))) 9 h
set_option maxHeartbeats 4000000 in
theorem l_X9_releases_j77  {h : HP}  {Q : HP → Prop} {C : Cx} (hC : xOk C cX9_releases yX9_releases.cls 4 rm_X9_releases none) (hE : xEnd C gM SH (pV Q))   (hp : P_X9_releases_j77 78 h  Q) : SW C gM 77 [(0, .ref 78)] [] h := by
  unfold P_X9_releases_j77 at hp
  refine x_aload_n hC dX9_releases_77 (lm 0 rfl) ?_
  refine s_getR (r := 80) hC dX9_releases_78 fk_9_13 ty_78 (fr_9_8 ty_78).1 ?_
  refine x_iconst hC dX9_releases_81 ic_4 ?_
  refine x_dup2 hC dX9_releases_82 rfl rfl ?_
  refine s_iald hC dX9_releases_83 ((fr_9_8 ty_78).2) (vi (by decide)) ?_
  refine x_iconst hC dX9_releases_84 ic_1 ?_
  refine x_iadd hC dX9_releases_85 ?_
  refine s_iast hC dX9_releases_86 ((fr_9_8 ty_78).2) (vi (by decide)) ?_
  exact x_vret hC hE dX9_releases_87 ⟨_, rfl, rfl, hp⟩
set_option maxHeartbeats 4000000 in
theorem t_X9_releases {i1 : Int32} {i2 : Int32} {h : HP} {Q : HP → Prop}  (hp : P_X9_releases i1 i2 h Q) : MT yX9_releases cX9_releases 4 none rm_X9_releases [.ref 78, .int i1, .int i2] gM SH (emb h) (pV Q) := by
  refine MT.of (by decide +kernel) (Nat.le_of_ble_eq_true rfl) (fun C hC hE => ?_)
  show SW C gM 0 [(0, .ref 78), (1, .int i1), (2, .int i2)] [] h
  unfold P_X9_releases at hp
  refine x_bipush hC dX9_releases_0 bp_9 ?_
  refine x_istore_n (lv' := [(3, .int 9), (0, .ref 78), (1, .int i1), (2, .int i2)]) hC dX9_releases_2 (by decide) rfl ?_
  refine x_subk (lv' := [(0, .ref 78), (1, .int i1), (2, .int i2), (3, .int 9)]) [1, 2, 3, 0] rfl ?_
  refine hp (fun i3_3 h_3 => SW C gM 3 [(0, .ref 78), (1, .int i1), (2, .int i2), (3, .int i3_3)] [] h_3) (fun i3_3 h_3 hp => ?_)
  refine x_iload_n hC dX9_releases_3 (lm 3 rfl) ?_
  refine x_if_le (tgt := 37) hC dX9_releases_4 (by decide) (fun hc => ?_) (fun hc => ?_)
  · have hp := hp.1 hc
    refine x_aload_n hC dX9_releases_37 (lm 0 rfl) ?_
    refine s_getR (r := 110) hC dX9_releases_38 fk_9_104 ty_78 (fr_9_38 ty_78).1 ?_
    refine x_bipush hC dX9_releases_41 bp_10 ?_
    refine x_iload_n hC dX9_releases_43 (lm 1 rfl) ?_
    refine x_imul hC dX9_releases_44 ?_
    refine x_iload_n hC dX9_releases_45 (lm 2 rfl) ?_
    obtain ⟨ho, hp⟩ := hp
    refine s_iast hC dX9_releases_46 ((fr_9_38 ty_78).2) ho ?_
    refine x_aload_n hC dX9_releases_47 (lm 0 rfl) ?_
    refine s_getR (r := 109) hC dX9_releases_48 fk_9_101 ty_78 (fr_9_37 ty_78).1 ?_
    refine x_iload_n hC dX9_releases_51 (lm 1 rfl) ?_
    refine x_aload_n hC dX9_releases_52 (lm 0 rfl) ?_
    refine s_getR (r := 109) hC dX9_releases_53 fk_9_101 ty_78 (fr_9_37 ty_78).1 ?_
    refine x_iload_n hC dX9_releases_56 (lm 1 rfl) ?_
    obtain ⟨ho, hp⟩ := hp
    refine s_iald hC dX9_releases_57 ((fr_9_37 ty_78).2) ho ?_
    refine x_bipush hC dX9_releases_58 bp_10 ?_
    refine x_icmp_ge (tgt := 74) hC dX9_releases_60 (by decide) (fun hc => ?_) (fun hc => ?_)
    · have hp := hp.1 hc
      refine x_bipush hC dX9_releases_74 bp_10 ?_
      obtain ⟨ho, hp⟩ := hp
      refine s_iast hC dX9_releases_76 ((fr_9_37 ty_78).2) ho ?_
      exact x_subk [0] rfl (l_X9_releases_j77 hC hE   hp)
    · have hp := hp.2 hc
      refine x_aload_n hC dX9_releases_63 (lm 0 rfl) ?_
      refine s_getR (r := 109) hC dX9_releases_64 fk_9_101 ty_78 (fr_9_37 ty_78).1 ?_
      refine x_iload_n hC dX9_releases_67 (lm 1 rfl) ?_
      obtain ⟨ho, hp⟩ := hp
      refine s_iald hC dX9_releases_68 ((fr_9_37 ty_78).2) ho ?_
      refine x_iconst hC dX9_releases_69 ic_1 ?_
      refine x_iadd hC dX9_releases_70 ?_
      refine x_goto (tgt := 76) hC dX9_releases_71 (by decide) ?_
      obtain ⟨ho, hp⟩ := hp
      refine s_iast hC dX9_releases_76 ((fr_9_37 ty_78).2) ho ?_
      exact x_subk [0] rfl (l_X9_releases_j77 hC hE   hp)
  · have hp := hp.2 hc
    refine x_aload_n hC dX9_releases_7 (lm 0 rfl) ?_
    refine s_getR (r := 110) hC dX9_releases_8 fk_9_104 ty_78 (fr_9_38 ty_78).1 ?_
    refine x_bipush hC dX9_releases_11 bp_10 ?_
    refine x_iload_n hC dX9_releases_13 (lm 1 rfl) ?_
    refine x_imul hC dX9_releases_14 ?_
    refine x_iload_n hC dX9_releases_15 (lm 3 rfl) ?_
    refine x_iadd hC dX9_releases_16 ?_
    refine x_aload_n hC dX9_releases_17 (lm 0 rfl) ?_
    refine s_getR (r := 110) hC dX9_releases_18 fk_9_104 ty_78 (fr_9_38 ty_78).1 ?_
    refine x_bipush hC dX9_releases_21 bp_10 ?_
    refine x_iload_n hC dX9_releases_23 (lm 1 rfl) ?_
    refine x_imul hC dX9_releases_24 ?_
    refine x_iload_n hC dX9_releases_25 (lm 3 rfl) ?_
    refine x_iadd hC dX9_releases_26 ?_
    refine x_iconst hC dX9_releases_27 ic_1 ?_
    refine x_isub hC dX9_releases_28 ?_
    obtain ⟨ho, hp⟩ := hp
    refine s_iald hC dX9_releases_29 ((fr_9_38 ty_78).2) ho ?_
    obtain ⟨ho, hp⟩ := hp
    refine s_iast hC dX9_releases_30 ((fr_9_38 ty_78).2) ho ?_
    refine x_iinc (u := i3_3 + (-1)) (lv' := [(3, .int (i3_3 + (-1))), (0, .ref 78), (1, .int i1), (2, .int i2)]) hC dX9_releases_31 (lm 3 rfl) (congrArg _ ic_m1) (by decide) rfl ?_
    refine x_goto (tgt := 3) hC dX9_releases_34 (by decide) ?_
    exact x_subk [1, 2, 3, 0] rfl hp
theorem dX9_steps_0 : decode cX9_steps 0 = .ok (.bipush 64, 2) := by decide +kernel
theorem dX9_steps_2 : decode cX9_steps 2 = .ok (.iload_n 1, 1) := by decide +kernel
theorem dX9_steps_3 : decode cX9_steps 3 = .ok (.imul, 1) := by decide +kernel
theorem dX9_steps_4 : decode cX9_steps 4 = .ok (.aload_n 0, 1) := by decide +kernel
theorem dX9_steps_5 : decode cX9_steps 5 = .ok (.getfield 83, 3) := by decide +kernel
theorem dX9_steps_8 : decode cX9_steps 8 = .ok (.iload_n 1, 1) := by decide +kernel
theorem dX9_steps_9 : decode cX9_steps 9 = .ok (.iaload, 1) := by decide +kernel
theorem dX9_steps_10 : decode cX9_steps 10 = .ok (.iadd, 1) := by decide +kernel
theorem dX9_steps_11 : decode cX9_steps 11 = .ok (.istore_n 2, 1) := by decide +kernel
theorem dX9_steps_12 : decode cX9_steps 12 = .ok (.aload_n 0, 1) := by decide +kernel
theorem dX9_steps_13 : decode cX9_steps 13 = .ok (.getfield 98, 3) := by decide +kernel
theorem dX9_steps_16 : decode cX9_steps 16 = .ok (.iload_n 2, 1) := by decide +kernel
theorem dX9_steps_17 : decode cX9_steps 17 = .ok (.iaload, 1) := by decide +kernel
theorem dX9_steps_18 : decode cX9_steps 18 = .ok (.ifCond .le 14, 3) := by decide +kernel
theorem dX9_steps_21 : decode cX9_steps 21 = .ok (.aload_n 0, 1) := by decide +kernel
theorem dX9_steps_22 : decode cX9_steps 22 = .ok (.iload_n 1, 1) := by decide +kernel
theorem dX9_steps_23 : decode cX9_steps 23 = .ok (.aload_n 0, 1) := by decide +kernel
theorem dX9_steps_24 : decode cX9_steps 24 = .ok (.getfield 98, 3) := by decide +kernel
theorem dX9_steps_27 : decode cX9_steps 27 = .ok (.iload_n 2, 1) := by decide +kernel
theorem dX9_steps_28 : decode cX9_steps 28 = .ok (.iaload, 1) := by decide +kernel
theorem dX9_steps_29 : decode cX9_steps 29 = .ok (.invokevirtual 232, 3) := by decide +kernel
theorem dX9_steps_32 : decode cX9_steps 32 = .ok (.aload_n 0, 1) := by decide +kernel
theorem dX9_steps_33 : decode cX9_steps 33 = .ok (.getfield 98, 3) := by decide +kernel
theorem dX9_steps_36 : decode cX9_steps 36 = .ok (.iload_n 2, 1) := by decide +kernel
theorem dX9_steps_37 : decode cX9_steps 37 = .ok (.iconst (-1), 1) := by decide +kernel
theorem dX9_steps_38 : decode cX9_steps 38 = .ok (.iastore, 1) := by decide +kernel
theorem dX9_steps_39 : decode cX9_steps 39 = .ok (.aload_n 0, 1) := by decide +kernel
theorem dX9_steps_40 : decode cX9_steps 40 = .ok (.getfield 83, 3) := by decide +kernel
theorem dX9_steps_43 : decode cX9_steps 43 = .ok (.iload_n 1, 1) := by decide +kernel
theorem dX9_steps_44 : decode cX9_steps 44 = .ok (.aload_n 0, 1) := by decide +kernel
theorem dX9_steps_45 : decode cX9_steps 45 = .ok (.getfield 83, 3) := by decide +kernel
theorem dX9_steps_48 : decode cX9_steps 48 = .ok (.iload_n 1, 1) := by decide +kernel
theorem dX9_steps_49 : decode cX9_steps 49 = .ok (.iaload, 1) := by decide +kernel
theorem dX9_steps_50 : decode cX9_steps 50 = .ok (.iconst 1, 1) := by decide +kernel
theorem dX9_steps_51 : decode cX9_steps 51 = .ok (.iadd, 1) := by decide +kernel
theorem dX9_steps_52 : decode cX9_steps 52 = .ok (.bipush 64, 2) := by decide +kernel
theorem dX9_steps_54 : decode cX9_steps 54 = .ok (.irem, 1) := by decide +kernel
theorem dX9_steps_55 : decode cX9_steps 55 = .ok (.iastore, 1) := by decide +kernel
theorem dX9_steps_56 : decode cX9_steps 56 = .ok (.aload_n 0, 1) := by decide +kernel
theorem dX9_steps_57 : decode cX9_steps 57 = .ok (.getfield 92, 3) := by decide +kernel
theorem dX9_steps_60 : decode cX9_steps 60 = .ok (.iload_n 1, 1) := by decide +kernel
theorem dX9_steps_61 : decode cX9_steps 61 = .ok (.iconst 0, 1) := by decide +kernel
theorem dX9_steps_62 : decode cX9_steps 62 = .ok (.iastore, 1) := by decide +kernel
theorem dX9_steps_63 : decode cX9_steps 63 = .ok (.return_, 1) := by decide +kernel
abbrev rm_X9_steps : Room := { frames := 1, cells := 0, slots := 0, locals := 23 }
def P_X9_steps_j32 (_q0 : Nat) (i1 : Int32) (i2 : Int32) (h : HP)  (Q : HP → Prop) : Prop := (vp_in i2 256) ∧ ((vp_in i1 4) ∧ ((vp_in i1 4) ∧ ((vp_in i1 4) ∧ (Q (si (si (si h 108 i2.toNatClampNeg (-1)) 103 i1.toNatClampNeg ((((si h 108 i2.toNatClampNeg (-1)).1 103 i1.toNatClampNeg) + 1) - (((si h 108 i2.toNatClampNeg (-1)).1 103 i1.toNatClampNeg) + 1) / 64 * 64)) 106 i1.toNatClampNeg 0)))))
def P_X9_steps (i1 : Int32) (h : HP) (Q : HP → Prop) : Prop := (vp_in i1 4) ∧ ((vp_in ((64 * i1) + (h.1 103 i1.toNatClampNeg)) 256) ∧ ((((h.1 108 ((64 * i1) + (h.1 103 i1.toNatClampNeg)).toNatClampNeg) ≤ 0) → (P_X9_steps_j32 78 i1 ((64 * i1) + (h.1 103 i1.toNatClampNeg)) h Q)) ∧ ((¬ (h.1 108 ((64 * i1) + (h.1 103 i1.toNatClampNeg)).toNatClampNeg) ≤ 0) → ((vp_in ((64 * i1) + (h.1 103 i1.toNatClampNeg)) 256) ∧ (P_X9_releases i1 (h.1 108 ((64 * i1) + (h.1 103 i1.toNatClampNeg)).toNatClampNeg) h (fun (h_29 : HP) => P_X9_steps_j32 78 i1 ((64 * i1) + (h.1 103 i1.toNatClampNeg)) h_29 Q))))))
set_option maxHeartbeats 4000000 in
theorem l_X9_steps_j32 {i1 : Int32} {i2 : Int32} {h : HP}  {Q : HP → Prop} {C : Cx} (hC : xOk C cX9_steps yX9_steps.cls 3 rm_X9_steps none) (hE : xEnd C gM SH (pV Q))   (hp : P_X9_steps_j32 78 i1 i2 h  Q) : SW C gM 32 [(0, .ref 78), (1, .int i1), (2, .int i2)] [] h := by
  unfold P_X9_steps_j32 at hp
  refine x_aload_n hC dX9_steps_32 (lm 0 rfl) ?_
  refine s_getR (r := 108) hC dX9_steps_33 fk_9_98 ty_78 (fr_9_36 ty_78).1 ?_
  refine x_iload_n hC dX9_steps_36 (lm 2 rfl) ?_
  refine x_iconst hC dX9_steps_37 ic_m1 ?_
  obtain ⟨ho, hp⟩ := hp
  refine s_iast hC dX9_steps_38 ((fr_9_36 ty_78).2) ho ?_
  refine x_aload_n hC dX9_steps_39 (lm 0 rfl) ?_
  refine s_getR (r := 103) hC dX9_steps_40 fk_9_83 ty_78 (fr_9_31 ty_78).1 ?_
  refine x_iload_n hC dX9_steps_43 (lm 1 rfl) ?_
  refine x_aload_n hC dX9_steps_44 (lm 0 rfl) ?_
  refine s_getR (r := 103) hC dX9_steps_45 fk_9_83 ty_78 (fr_9_31 ty_78).1 ?_
  refine x_iload_n hC dX9_steps_48 (lm 1 rfl) ?_
  obtain ⟨ho, hp⟩ := hp
  refine s_iald hC dX9_steps_49 ((fr_9_31 ty_78).2) ho ?_
  refine x_iconst hC dX9_steps_50 ic_1 ?_
  refine x_iadd hC dX9_steps_51 ?_
  refine x_bipush hC dX9_steps_52 bp_64 ?_
  refine x_irem hC dX9_steps_54 (by decide) ?_
  obtain ⟨ho, hp⟩ := hp
  refine s_iast hC dX9_steps_55 ((fr_9_31 ty_78).2) ho ?_
  refine x_aload_n hC dX9_steps_56 (lm 0 rfl) ?_
  refine s_getR (r := 106) hC dX9_steps_57 fk_9_92 ty_78 (fr_9_34 ty_78).1 ?_
  refine x_iload_n hC dX9_steps_60 (lm 1 rfl) ?_
  refine x_iconst hC dX9_steps_61 ic_0 ?_
  obtain ⟨ho, hp⟩ := hp
  refine s_iast hC dX9_steps_62 ((fr_9_34 ty_78).2) ho ?_
  exact x_vret hC hE dX9_steps_63 ⟨_, rfl, rfl, hp⟩
set_option maxHeartbeats 4000000 in
theorem t_X9_steps {i1 : Int32} {h : HP} {Q : HP → Prop}  (hp : P_X9_steps i1 h Q) : MT yX9_steps cX9_steps 3 none rm_X9_steps [.ref 78, .int i1] gM SH (emb h) (pV Q) := by
  refine MT.of (by decide +kernel) (Nat.le_of_ble_eq_true rfl) (fun C hC hE => ?_)
  show SW C gM 0 [(0, .ref 78), (1, .int i1)] [] h
  unfold P_X9_steps at hp
  refine x_bipush hC dX9_steps_0 bp_64 ?_
  refine x_iload_n hC dX9_steps_2 (lm 1 rfl) ?_
  refine x_imul hC dX9_steps_3 ?_
  refine x_aload_n hC dX9_steps_4 (lm 0 rfl) ?_
  refine s_getR (r := 103) hC dX9_steps_5 fk_9_83 ty_78 (fr_9_31 ty_78).1 ?_
  refine x_iload_n hC dX9_steps_8 (lm 1 rfl) ?_
  obtain ⟨ho, hp⟩ := hp
  refine s_iald hC dX9_steps_9 ((fr_9_31 ty_78).2) ho ?_
  refine x_iadd hC dX9_steps_10 ?_
  refine x_istore_n (lv' := [(2, .int ((64 * i1) + (h.1 103 i1.toNatClampNeg))), (0, .ref 78), (1, .int i1)]) hC dX9_steps_11 (by decide) rfl ?_
  refine x_aload_n hC dX9_steps_12 (lm 1 rfl) ?_
  refine s_getR (r := 108) hC dX9_steps_13 fk_9_98 ty_78 (fr_9_36 ty_78).1 ?_
  refine x_iload_n hC dX9_steps_16 (lm 0 rfl) ?_
  obtain ⟨ho, hp⟩ := hp
  refine s_iald hC dX9_steps_17 ((fr_9_36 ty_78).2) ho ?_
  refine x_if_le (tgt := 32) hC dX9_steps_18 (by decide) (fun hc => ?_) (fun hc => ?_)
  · have hp := hp.1 hc
    exact x_subk [1, 2, 0] rfl (l_X9_steps_j32 hC hE   hp)
  · have hp := hp.2 hc
    refine x_aload_n hC dX9_steps_21 (lm 1 rfl) ?_
    refine x_iload_n hC dX9_steps_22 (lm 2 rfl) ?_
    refine x_aload_n hC dX9_steps_23 (lm 1 rfl) ?_
    refine s_getR (r := 108) hC dX9_steps_24 fk_9_98 ty_78 (fr_9_36 ty_78).1 ?_
    refine x_iload_n hC dX9_steps_27 (lm 0 rfl) ?_
    obtain ⟨ho, hp⟩ := hp
    refine s_iald hC dX9_steps_28 ((fr_9_36 ty_78).2) ho ?_
    refine s_callVv (avs := [.int i1, .int (h.1 108 ((64 * i1) + (h.1 103 i1.toNatClampNeg)).toNatClampNeg)]) (st := []) hC dX9_steps_29 ml_9_232 mi_X9_releases ty_78 rfl (t_X9_releases  hp) (Nat.le_of_ble_eq_true rfl) ⟨rfl, rfl⟩ ⟨Nat.le_of_ble_eq_true rfl, Nat.le_of_ble_eq_true rfl⟩ (fun h_29 hp => ?_)
    exact x_subk [1, 2, 0] rfl (l_X9_steps_j32 hC hE   hp)
theorem dX9_movesTo_0 : decode cX9_movesTo 0 = .ok (.aload_n 0, 1) := by decide +kernel
theorem dX9_movesTo_1 : decode cX9_movesTo 1 = .ok (.getfield 83, 3) := by decide +kernel
theorem dX9_movesTo_4 : decode cX9_movesTo 4 = .ok (.iload_n 1, 1) := by decide +kernel
theorem dX9_movesTo_5 : decode cX9_movesTo 5 = .ok (.iaload, 1) := by decide +kernel
theorem dX9_movesTo_6 : decode cX9_movesTo 6 = .ok (.iload_n 2, 1) := by decide +kernel
theorem dX9_movesTo_7 : decode cX9_movesTo 7 = .ok (.if_icmp .eq 11, 3) := by decide +kernel
theorem dX9_movesTo_10 : decode cX9_movesTo 10 = .ok (.aload_n 0, 1) := by decide +kernel
theorem dX9_movesTo_11 : decode cX9_movesTo 11 = .ok (.iload_n 1, 1) := by decide +kernel
theorem dX9_movesTo_12 : decode cX9_movesTo 12 = .ok (.invokevirtual 235, 3) := by decide +kernel
theorem dX9_movesTo_15 : decode cX9_movesTo 15 = .ok (.goto (-15), 3) := by decide +kernel
theorem dX9_movesTo_18 : decode cX9_movesTo 18 = .ok (.return_, 1) := by decide +kernel
abbrev rm_X9_movesTo : Room := { frames := 2, cells := 0, slots := 0, locals := 45 }
def P_X9_movesTo (i1 : Int32) (i2 : Int32) (h : HP) (Q : HP → Prop) : Prop := Lp1 (fun X_0  (h_0 : HP) => (vp_in i1 4) ∧ ((((h_0.1 103 i1.toNatClampNeg) = i2) → Q h_0) ∧ ((¬ (h_0.1 103 i1.toNatClampNeg) = i2) → (P_X9_steps i1 h_0 (fun (h_12 : HP) => X_0 h_12))))) h
set_option maxHeartbeats 4000000 in
theorem t_X9_movesTo {i1 : Int32} {i2 : Int32} {h : HP} {Q : HP → Prop}  (hp : P_X9_movesTo i1 i2 h Q) : MT yX9_movesTo cX9_movesTo 3 none rm_X9_movesTo [.ref 78, .int i1, .int i2] gM SH (emb h) (pV Q) := by
  refine MT.of (by decide +kernel) (Nat.le_of_ble_eq_true rfl) (fun C hC hE => ?_)
  show SW C gM 0 [(0, .ref 78), (1, .int i1), (2, .int i2)] [] h
  unfold P_X9_movesTo at hp
  refine x_subk (lv' := [(0, .ref 78), (1, .int i1), (2, .int i2)]) [0, 1, 2] rfl ?_
  refine hp (fun  h_0 => SW C gM 0 [(0, .ref 78), (1, .int i1), (2, .int i2)] [] h_0) (fun  h_0 hp => ?_)
  refine x_aload_n hC dX9_movesTo_0 (lm 0 rfl) ?_
  refine s_getR (r := 103) hC dX9_movesTo_1 fk_9_83 ty_78 (fr_9_31 ty_78).1 ?_
  refine x_iload_n hC dX9_movesTo_4 (lm 1 rfl) ?_
  obtain ⟨ho, hp⟩ := hp
  refine s_iald hC dX9_movesTo_5 ((fr_9_31 ty_78).2) ho ?_
  refine x_iload_n hC dX9_movesTo_6 (lm 2 rfl) ?_
  refine x_icmp_eq (tgt := 18) hC dX9_movesTo_7 (by decide) (fun hc => ?_) (fun hc => ?_)
  · have hp := hp.1 hc
    exact x_vret hC hE dX9_movesTo_18 ⟨_, rfl, rfl, hp⟩
  · have hp := hp.2 hc
    refine x_aload_n hC dX9_movesTo_10 (lm 0 rfl) ?_
    refine x_iload_n hC dX9_movesTo_11 (lm 1 rfl) ?_
    refine s_callVv (avs := [.int i1]) (st := []) hC dX9_movesTo_12 ml_9_235 mi_X9_steps ty_78 rfl (t_X9_steps  hp) (Nat.le_of_ble_eq_true rfl) ⟨rfl, rfl⟩ ⟨Nat.le_of_ble_eq_true rfl, Nat.le_of_ble_eq_true rfl⟩ (fun h_12 hp => ?_)
    refine x_goto (tgt := 0) hC dX9_movesTo_15 (by decide) ?_
    exact x_subk [0, 1, 2] rfl hp
