theorem dX7_clear_0 : decode cX7_clear 0 = .ok (.aload_n 0, 1) := by decide +kernel
theorem dX7_clear_1 : decode cX7_clear 1 = .ok (.iconst 0, 1) := by decide +kernel
theorem dX7_clear_2 : decode cX7_clear 2 = .ok (.putfield 7, 3) := by decide +kernel
theorem dX7_clear_5 : decode cX7_clear 5 = .ok (.aload_n 0, 1) := by decide +kernel
theorem dX7_clear_6 : decode cX7_clear 6 = .ok (.iconst 0, 1) := by decide +kernel
theorem dX7_clear_7 : decode cX7_clear 7 = .ok (.putfield 13, 3) := by decide +kernel
theorem dX7_clear_10 : decode cX7_clear 10 = .ok (.aload_n 0, 1) := by decide +kernel
theorem dX7_clear_11 : decode cX7_clear 11 = .ok (.iconst 0, 1) := by decide +kernel
theorem dX7_clear_12 : decode cX7_clear 12 = .ok (.putfield 16, 3) := by decide +kernel
theorem dX7_clear_15 : decode cX7_clear 15 = .ok (.aload_n 0, 1) := by decide +kernel
theorem dX7_clear_16 : decode cX7_clear 16 = .ok (.iconst 0, 1) := by decide +kernel
theorem dX7_clear_17 : decode cX7_clear 17 = .ok (.putfield 19, 3) := by decide +kernel
theorem dX7_clear_20 : decode cX7_clear 20 = .ok (.aload_n 0, 1) := by decide +kernel
theorem dX7_clear_21 : decode cX7_clear 21 = .ok (.iconst 0, 1) := by decide +kernel
theorem dX7_clear_22 : decode cX7_clear 22 = .ok (.putfield 22, 3) := by decide +kernel
theorem dX7_clear_25 : decode cX7_clear 25 = .ok (.aload_n 0, 1) := by decide +kernel
theorem dX7_clear_26 : decode cX7_clear 26 = .ok (.iconst 0, 1) := by decide +kernel
theorem dX7_clear_27 : decode cX7_clear 27 = .ok (.putfield 25, 3) := by decide +kernel
theorem dX7_clear_30 : decode cX7_clear 30 = .ok (.aload_n 0, 1) := by decide +kernel
theorem dX7_clear_31 : decode cX7_clear 31 = .ok (.iconst 0, 1) := by decide +kernel
theorem dX7_clear_32 : decode cX7_clear 32 = .ok (.putfield 28, 3) := by decide +kernel
theorem dX7_clear_35 : decode cX7_clear 35 = .ok (.return_, 1) := by decide +kernel
abbrev rm_X7_clear : Room := { frames := 0, cells := 0, slots := 0, locals := 0 }
def P_X7_clear  (h : HP) (Q : HP → Prop) : Prop := Q (si (si (si (si (si (si (si h 4 0 0) 4 1 0) 4 2 0) 4 3 0) 4 4 0) 4 5 0) 4 6 0)
set_option maxHeartbeats 4000000 in
theorem t_X7_clear  {h : HP} {Q : HP → Prop}  (hp : P_X7_clear  h Q) : MT yX7_clear cX7_clear 1 none rm_X7_clear [.ref 4] gC SH (emb h) (pV Q) := by
  refine MT.of (by decide +kernel) (Nat.le_of_ble_eq_true rfl) (fun C hC hE => ?_)
  show SW C gC 0 [(0, .ref 4)] [] h
  unfold P_X7_clear at hp
  refine x_aload_n hC dX7_clear_0 (lm 0 rfl) ?_
  refine x_iconst hC dX7_clear_1 ic_0 ?_
  refine s_putI hC dX7_clear_2 fk_7_7 rfl rfl ty_4 ?_
  refine x_aload_n hC dX7_clear_5 (lm 0 rfl) ?_
  refine x_iconst hC dX7_clear_6 ic_0 ?_
  refine s_putI hC dX7_clear_7 fk_7_13 rfl rfl ty_4 ?_
  refine x_aload_n hC dX7_clear_10 (lm 0 rfl) ?_
  refine x_iconst hC dX7_clear_11 ic_0 ?_
  refine s_putI hC dX7_clear_12 fk_7_16 rfl rfl ty_4 ?_
  refine x_aload_n hC dX7_clear_15 (lm 0 rfl) ?_
  refine x_iconst hC dX7_clear_16 ic_0 ?_
  refine s_putI hC dX7_clear_17 fk_7_19 rfl rfl ty_4 ?_
  refine x_aload_n hC dX7_clear_20 (lm 0 rfl) ?_
  refine x_iconst hC dX7_clear_21 ic_0 ?_
  refine s_putI hC dX7_clear_22 fk_7_22 rfl rfl ty_4 ?_
  refine x_aload_n hC dX7_clear_25 (lm 0 rfl) ?_
  refine x_iconst hC dX7_clear_26 ic_0 ?_
  refine s_putI hC dX7_clear_27 fk_7_25 rfl rfl ty_4 ?_
  refine x_aload_n hC dX7_clear_30 (lm 0 rfl) ?_
  refine x_iconst hC dX7_clear_31 ic_0 ?_
  refine s_putI hC dX7_clear_32 fk_7_28 rfl rfl ty_4 ?_
  exact x_vret hC hE dX7_clear_35 ⟨_, rfl, rfl, hp⟩
theorem dX8_letter_0 : decode cX8_letter 0 = .ok (.iload_n 1, 1) := by decide +kernel
theorem dX8_letter_1 : decode cX8_letter 1 = .ok (.bipush 32, 2) := by decide +kernel
theorem dX8_letter_3 : decode cX8_letter 3 = .ok (.bipush 126, 2) := by decide +kernel
theorem dX8_letter_5 : decode cX8_letter 5 = .ok (.invokestatic 53, 3) := by decide +kernel
theorem dX8_letter_8 : decode cX8_letter 8 = .ok (.ifCond .ne 6, 3) := by decide +kernel
theorem dX8_letter_11 : decode cX8_letter 11 = .ok (.bipush (-102), 2) := by decide +kernel
theorem dX8_letter_13 : decode cX8_letter 13 = .ok (.ireturn, 1) := by decide +kernel
theorem dX8_letter_14 : decode cX8_letter 14 = .ok (.aload_n 0, 1) := by decide +kernel
theorem dX8_letter_15 : decode cX8_letter 15 = .ok (.getfield 10, 3) := by decide +kernel
theorem dX8_letter_18 : decode cX8_letter 18 = .ok (.iload_n 1, 1) := by decide +kernel
theorem dX8_letter_19 : decode cX8_letter 19 = .ok (.invokevirtual 57, 3) := by decide +kernel
theorem dX8_letter_22 : decode cX8_letter 22 = .ok (.ifCond .eq 13, 3) := by decide +kernel
theorem dX8_letter_25 : decode cX8_letter 25 = .ok (.aload_n 0, 1) := by decide +kernel
theorem dX8_letter_26 : decode cX8_letter 26 = .ok (.getfield 10, 3) := by decide +kernel
theorem dX8_letter_29 : decode cX8_letter 29 = .ok (.getfield 61, 3) := by decide +kernel
theorem dX8_letter_32 : decode cX8_letter 32 = .ok (.goto 5, 3) := by decide +kernel
theorem dX8_letter_35 : decode cX8_letter 35 = .ok (.bipush (-104), 2) := by decide +kernel
theorem dX8_letter_37 : decode cX8_letter 37 = .ok (.ireturn, 1) := by decide +kernel
abbrev rm_X8_letter : Room := { frames := 1, cells := 0, slots := 0, locals := 22 }
def P_X8_letter (i1 : Int32) (h : HP) (Q : Int32 → HP → Prop) : Prop := P_X8_within i1 32 126 h (fun (v_5 : Int32) (h_5 : HP) => ((¬ v_5 = 0) → (P_X5_write i1 h_5 (fun (v_19 : Int32) (h_19 : HP) => ((v_19 = 0) → (Q (-104) h_19)) ∧ ((¬ v_19 = 0) → (Q (h_19.1 1 1) h_19))))) ∧ ((v_5 = 0) → (Q (-102) h_5)))
set_option maxHeartbeats 4000000 in
theorem t_X8_letter {i1 : Int32} {h : HP} {Q : Int32 → HP → Prop}  (hp : P_X8_letter i1 h Q) : MT yX8_letter cX8_letter 2 (some .int) rm_X8_letter [.ref 0, .int i1] gC SH (emb h) (pI Q) := by
  refine MT.of (by decide +kernel) (Nat.le_of_ble_eq_true rfl) (fun C hC hE => ?_)
  show SW C gC 0 [(0, .ref 0), (1, .int i1)] [] h
  unfold P_X8_letter at hp
  refine x_iload_n hC dX8_letter_0 (lm 1 rfl) ?_
  refine x_bipush hC dX8_letter_1 bp_32 ?_
  refine x_bipush hC dX8_letter_3 bp_126 ?_
  refine s_callSi (avs := [.int i1, .int 32, .int 126]) (st := []) hC dX8_letter_5 ml_8_53 ms_X8_within rfl (t_X8_within  hp) (Nat.le_of_ble_eq_true rfl) ⟨rfl, rfl⟩ ⟨Nat.le_of_ble_eq_true rfl, Nat.le_of_ble_eq_true rfl⟩ (fun v_5 h_5 hp => ?_)
  refine x_if_ne (tgt := 14) hC dX8_letter_8 (by decide) (fun hc => ?_) (fun hc => ?_)
  · have hp := hp.1 hc
    refine x_aload_n hC dX8_letter_14 (lm 0 rfl) ?_
    refine s_getR (r := 1) hC dX8_letter_15 fk_8_10 ty_0 (fr_8_0 ty_0).1 ?_
    refine x_iload_n hC dX8_letter_18 (lm 1 rfl) ?_
    refine s_callVi (avs := [.int i1]) (st := []) hC dX8_letter_19 ml_8_57 mi_X5_write ty_1 rfl (t_X5_write  hp) (Nat.le_of_ble_eq_true rfl) ⟨rfl, rfl⟩ ⟨Nat.le_of_ble_eq_true rfl, Nat.le_of_ble_eq_true rfl⟩ (fun v_19 h_19 hp => ?_)
    refine x_if_eq (tgt := 35) hC dX8_letter_22 (by decide) (fun hc => ?_) (fun hc => ?_)
    · have hp := hp.1 hc
      refine x_bipush hC dX8_letter_35 bp_m104 ?_
      exact x_iret hC hE dX8_letter_37 ⟨_, _, rfl, rfl, hp⟩
    · have hp := hp.2 hc
      refine x_aload_n hC dX8_letter_25 (lm 0 rfl) ?_
      refine s_getR (r := 1) hC dX8_letter_26 fk_8_10 ty_0 (fr_8_0 ty_0).1 ?_
      refine s_getI hC dX8_letter_29 fk_8_61 ty_1 ?_
      refine x_goto (tgt := 37) hC dX8_letter_32 (by decide) ?_
      exact x_iret hC hE dX8_letter_37 ⟨_, _, rfl, rfl, hp⟩
  · have hp := hp.2 hc
    refine x_bipush hC dX8_letter_11 bp_m102 ?_
    exact x_iret hC hE dX8_letter_13 ⟨_, _, rfl, rfl, hp⟩
theorem dX8_blank_0 : decode cX8_blank 0 = .ok (.aload_n 0, 1) := by decide +kernel
theorem dX8_blank_1 : decode cX8_blank 1 = .ok (.getfield 10, 3) := by decide +kernel
theorem dX8_blank_4 : decode cX8_blank 4 = .ok (.invokevirtual 65, 3) := by decide +kernel
theorem dX8_blank_7 : decode cX8_blank 7 = .ok (.ireturn, 1) := by decide +kernel
abbrev rm_X8_blank : Room := { frames := 1, cells := 0, slots := 0, locals := 21 }
def P_X8_blank  (h : HP) (Q : Int32 → HP → Prop) : Prop := P_X5_wipe h (fun (v_4 : Int32) (h_4 : HP) => Q v_4 h_4)
set_option maxHeartbeats 4000000 in
theorem t_X8_blank  {h : HP} {Q : Int32 → HP → Prop}  (hp : P_X8_blank  h Q) : MT yX8_blank cX8_blank 1 (some .int) rm_X8_blank [.ref 0] gC SH (emb h) (pI Q) := by
  refine MT.of (by decide +kernel) (Nat.le_of_ble_eq_true rfl) (fun C hC hE => ?_)
  show SW C gC 0 [(0, .ref 0)] [] h
  unfold P_X8_blank at hp
  refine x_aload_n hC dX8_blank_0 (lm 0 rfl) ?_
  refine s_getR (r := 1) hC dX8_blank_1 fk_8_10 ty_0 (fr_8_0 ty_0).1 ?_
  refine s_callVi (avs := []) (st := []) hC dX8_blank_4 ml_8_65 mi_X5_wipe ty_1 rfl (t_X5_wipe  hp) (Nat.le_of_ble_eq_true rfl) ⟨rfl, rfl⟩ ⟨Nat.le_of_ble_eq_true rfl, Nat.le_of_ble_eq_true rfl⟩ (fun v_4 h_4 hp => ?_)
  exact x_iret hC hE dX8_blank_7 ⟨_, _, rfl, rfl, hp⟩
theorem dX8_fault_0 : decode cX8_fault 0 = .ok (.aload_n 0, 1) := by decide +kernel
theorem dX8_fault_1 : decode cX8_fault 1 = .ok (.getfield 10, 3) := by decide +kernel
theorem dX8_fault_4 : decode cX8_fault 4 = .ok (.invokevirtual 69, 3) := by decide +kernel
theorem dX8_fault_7 : decode cX8_fault 7 = .ok (.ireturn, 1) := by decide +kernel
abbrev rm_X8_fault : Room := { frames := 2, cells := 0, slots := 0, locals := 43 }
def P_X8_fault  (h : HP) (Q : Int32 → HP → Prop) : Prop := P_X5_firstFault h (fun (v_4 : Int32) (h_4 : HP) => Q v_4 h_4)
set_option maxHeartbeats 4000000 in
theorem t_X8_fault  {h : HP} {Q : Int32 → HP → Prop}  (hp : P_X8_fault  h Q) : MT yX8_fault cX8_fault 1 (some .int) rm_X8_fault [.ref 0] gC SH (emb h) (pI Q) := by
  refine MT.of (by decide +kernel) (Nat.le_of_ble_eq_true rfl) (fun C hC hE => ?_)
  show SW C gC 0 [(0, .ref 0)] [] h
  unfold P_X8_fault at hp
  refine x_aload_n hC dX8_fault_0 (lm 0 rfl) ?_
  refine s_getR (r := 1) hC dX8_fault_1 fk_8_10 ty_0 (fr_8_0 ty_0).1 ?_
  refine s_callVi (avs := []) (st := []) hC dX8_fault_4 ml_8_69 mi_X5_firstFault ty_1 rfl (t_X5_firstFault  hp) (Nat.le_of_ble_eq_true rfl) ⟨rfl, rfl⟩ ⟨Nat.le_of_ble_eq_true rfl, Nat.le_of_ble_eq_true rfl⟩ (fun v_4 h_4 hp => ?_)
  exact x_iret hC hE dX8_fault_7 ⟨_, _, rfl, rfl, hp⟩
theorem dX8_air_0 : decode cX8_air 0 = .ok (.aload_n 0, 1) := by decide +kernel
theorem dX8_air_1 : decode cX8_air 1 = .ok (.getfield 10, 3) := by decide +kernel
theorem dX8_air_4 : decode cX8_air 4 = .ok (.invokevirtual 72, 3) := by decide +kernel
theorem dX8_air_7 : decode cX8_air 7 = .ok (.ifCond .ne 6, 3) := by decide +kernel
theorem dX8_air_10 : decode cX8_air 10 = .ok (.bipush (-103), 2) := by decide +kernel
theorem dX8_air_12 : decode cX8_air 12 = .ok (.ireturn, 1) := by decide +kernel
theorem dX8_air_13 : decode cX8_air 13 = .ok (.aload_n 0, 1) := by decide +kernel
theorem dX8_air_14 : decode cX8_air 14 = .ok (.getfield 19, 3) := by decide +kernel
theorem dX8_air_17 : decode cX8_air 17 = .ok (.aload_n 0, 1) := by decide +kernel
theorem dX8_air_18 : decode cX8_air 18 = .ok (.getfield 10, 3) := by decide +kernel
theorem dX8_air_21 : decode cX8_air 21 = .ok (.invokevirtual 76, 3) := by decide +kernel
theorem dX8_air_24 : decode cX8_air 24 = .ok (.aload_n 0, 1) := by decide +kernel
theorem dX8_air_25 : decode cX8_air 25 = .ok (.getfield 10, 3) := by decide +kernel
theorem dX8_air_28 : decode cX8_air 28 = .ok (.invokevirtual 65, 3) := by decide +kernel
theorem dX8_air_31 : decode cX8_air 31 = .ok (.pop, 1) := by decide +kernel
theorem dX8_air_32 : decode cX8_air 32 = .ok (.aload_n 0, 1) := by decide +kernel
theorem dX8_air_33 : decode cX8_air 33 = .ok (.getfield 26, 3) := by decide +kernel
theorem dX8_air_36 : decode cX8_air 36 = .ok (.invokevirtual 80, 3) := by decide +kernel
theorem dX8_air_39 : decode cX8_air 39 = .ok (.aload_n 0, 1) := by decide +kernel
theorem dX8_air_40 : decode cX8_air 40 = .ok (.getfield 26, 3) := by decide +kernel
theorem dX8_air_43 : decode cX8_air 43 = .ok (.dup, 1) := by decide +kernel
theorem dX8_air_44 : decode cX8_air 44 = .ok (.getfield 83, 3) := by decide +kernel
theorem dX8_air_47 : decode cX8_air 47 = .ok (.iconst 1, 1) := by decide +kernel
theorem dX8_air_48 : decode cX8_air 48 = .ok (.iadd, 1) := by decide +kernel
theorem dX8_air_49 : decode cX8_air 49 = .ok (.putfield 83, 3) := by decide +kernel
theorem dX8_air_52 : decode cX8_air 52 = .ok (.aload_n 0, 1) := by decide +kernel
theorem dX8_air_53 : decode cX8_air 53 = .ok (.getfield 35, 3) := by decide +kernel
theorem dX8_air_56 : decode cX8_air 56 = .ok (.invokevirtual 86, 3) := by decide +kernel
theorem dX8_air_59 : decode cX8_air 59 = .ok (.iconst 0, 1) := by decide +kernel
theorem dX8_air_60 : decode cX8_air 60 = .ok (.istore_n 1, 1) := by decide +kernel
theorem dX8_air_61 : decode cX8_air 61 = .ok (.iload_n 1, 1) := by decide +kernel
theorem dX8_air_62 : decode cX8_air 62 = .ok (.iconst 4, 1) := by decide +kernel
theorem dX8_air_63 : decode cX8_air 63 = .ok (.if_icmp .ge 27, 3) := by decide +kernel
theorem dX8_air_66 : decode cX8_air 66 = .ok (.aload_n 0, 1) := by decide +kernel
theorem dX8_air_67 : decode cX8_air 67 = .ok (.getfield 41, 3) := by decide +kernel
theorem dX8_air_70 : decode cX8_air 70 = .ok (.iload_n 1, 1) := by decide +kernel
theorem dX8_air_71 : decode cX8_air 71 = .ok (.aaload, 1) := by decide +kernel
theorem dX8_air_72 : decode cX8_air 72 = .ok (.invokevirtual 87, 3) := by decide +kernel
theorem dX8_air_75 : decode cX8_air 75 = .ok (.aload_n 0, 1) := by decide +kernel
theorem dX8_air_76 : decode cX8_air 76 = .ok (.getfield 47, 3) := by decide +kernel
theorem dX8_air_79 : decode cX8_air 79 = .ok (.iload_n 1, 1) := by decide +kernel
theorem dX8_air_80 : decode cX8_air 80 = .ok (.aaload, 1) := by decide +kernel
theorem dX8_air_81 : decode cX8_air 81 = .ok (.invokevirtual 90, 3) := by decide +kernel
theorem dX8_air_84 : decode cX8_air 84 = .ok (.iinc 1 1, 3) := by decide +kernel
theorem dX8_air_87 : decode cX8_air 87 = .ok (.goto (-26), 3) := by decide +kernel
theorem dX8_air_90 : decode cX8_air 90 = .ok (.aload_n 0, 1) := by decide +kernel
theorem dX8_air_91 : decode cX8_air 91 = .ok (.getfield 19, 3) := by decide +kernel
theorem dX8_air_94 : decode cX8_air 94 = .ok (.getfield 91, 3) := by decide +kernel
theorem dX8_air_97 : decode cX8_air 97 = .ok (.aload_n 0, 1) := by decide +kernel
theorem dX8_air_98 : decode cX8_air 98 = .ok (.getfield 19, 3) := by decide +kernel
theorem dX8_air_101 : decode cX8_air 101 = .ok (.getfield 94, 3) := by decide +kernel
theorem dX8_air_104 : decode cX8_air 104 = .ok (.iadd, 1) := by decide +kernel
theorem dX8_air_105 : decode cX8_air 105 = .ok (.ireturn, 1) := by decide +kernel
abbrev rm_X8_air : Room := { frames := 4, cells := 0, slots := 0, locals := 85 }
def P_X8_air  (h : HP) (Q : Int32 → HP → Prop) : Prop := P_X5_isAir h (fun (v_4 : Int32) (h_4 : HP) => ((¬ v_4 = 0) → (P_X0_read h_4 (fun (h_21 : HP) => P_X5_wipe h_21 (fun (v_28 : Int32) (h_28 : HP) => P_X7_clear h_28 (fun (h_36 : HP) => P_X6_clear (si h_36 4 7 ((h_36.1 4 7) + 1)) (fun (h_56 : HP) => Lp2 (fun X_61 (i1_61 : Int32) (h_61 : HP) => ((4 ≤ i1_61) → (Q ((h_61.1 3 1) + (h_61.1 3 2)) h_61)) ∧ ((¬ 4 ≤ i1_61) → ((vp_in i1_61 4) ∧ (P_X3_vanish (34 + 11 * i1_61.toNatClampNeg) h_61 (fun (h_72 : HP) => (vp_in i1_61 4) ∧ (P_X1_vanish (41 + 11 * i1_61.toNatClampNeg) h_72 (fun (h_81 : HP) => X_61 (i1_61 + 1) h_81))))))) 0 h_56)))))) ∧ ((v_4 = 0) → (Q (-103) h_4)))
set_option maxHeartbeats 4000000 in
theorem t_X8_air  {h : HP} {Q : Int32 → HP → Prop}  (hp : P_X8_air  h Q) : MT yX8_air cX8_air 2 (some .int) rm_X8_air [.ref 0] gC SH (emb h) (pI Q) := by
  refine MT.of (by decide +kernel) (Nat.le_of_ble_eq_true rfl) (fun C hC hE => ?_)
  show SW C gC 0 [(0, .ref 0)] [] h
  unfold P_X8_air at hp
  refine x_aload_n hC dX8_air_0 (lm 0 rfl) ?_
  refine s_getR (r := 1) hC dX8_air_1 fk_8_10 ty_0 (fr_8_0 ty_0).1 ?_
  refine s_callVi (avs := []) (st := []) hC dX8_air_4 ml_8_72 mi_X5_isAir ty_1 rfl (t_X5_isAir  hp) (Nat.le_of_ble_eq_true rfl) ⟨rfl, rfl⟩ ⟨Nat.le_of_ble_eq_true rfl, Nat.le_of_ble_eq_true rfl⟩ (fun v_4 h_4 hp => ?_)
  refine x_if_ne (tgt := 13) hC dX8_air_7 (by decide) (fun hc => ?_) (fun hc => ?_)
  · have hp := hp.1 hc
    refine x_aload_n hC dX8_air_13 (lm 0 rfl) ?_
    refine s_getR (r := 3) hC dX8_air_14 fk_8_19 ty_0 (fr_8_1 ty_0).1 ?_
    refine x_aload_n hC dX8_air_17 (lm 0 rfl) ?_
    refine s_getR (r := 1) hC dX8_air_18 fk_8_10 ty_0 (fr_8_0 ty_0).1 ?_
    refine s_callVv (avs := [.ref 1]) (st := []) hC dX8_air_21 ml_8_76 mi_X0_read ty_3 rfl (t_X0_read  hp) (Nat.le_of_ble_eq_true rfl) ⟨rfl, rfl⟩ ⟨Nat.le_of_ble_eq_true rfl, Nat.le_of_ble_eq_true rfl⟩ (fun h_21 hp => ?_)
    refine x_aload_n hC dX8_air_24 (lm 0 rfl) ?_
    refine s_getR (r := 1) hC dX8_air_25 fk_8_10 ty_0 (fr_8_0 ty_0).1 ?_
    refine s_callVi (avs := []) (st := []) hC dX8_air_28 ml_8_65 mi_X5_wipe ty_1 rfl (t_X5_wipe  hp) (Nat.le_of_ble_eq_true rfl) ⟨rfl, rfl⟩ ⟨Nat.le_of_ble_eq_true rfl, Nat.le_of_ble_eq_true rfl⟩ (fun v_28 h_28 hp => ?_)
    refine x_pop hC dX8_air_31 rfl ?_
    refine x_aload_n hC dX8_air_32 (lm 0 rfl) ?_
    refine s_getR (r := 4) hC dX8_air_33 fk_8_26 ty_0 (fr_8_2 ty_0).1 ?_
    refine s_callVv (avs := []) (st := []) hC dX8_air_36 ml_8_80 mi_X7_clear ty_4 rfl (t_X7_clear  hp) (Nat.le_of_ble_eq_true rfl) ⟨rfl, rfl⟩ ⟨Nat.le_of_ble_eq_true rfl, Nat.le_of_ble_eq_true rfl⟩ (fun h_36 hp => ?_)
    refine x_aload_n hC dX8_air_39 (lm 0 rfl) ?_
    refine s_getR (r := 4) hC dX8_air_40 fk_8_26 ty_0 (fr_8_2 ty_0).1 ?_
    refine x_dup hC dX8_air_43 rfl ?_
    refine s_getI hC dX8_air_44 fk_8_83 ty_4 ?_
    refine x_iconst hC dX8_air_47 ic_1 ?_
    refine x_iadd hC dX8_air_48 ?_
    refine s_putI hC dX8_air_49 fk_8_83 rfl rfl ty_4 ?_
    refine x_aload_n hC dX8_air_52 (lm 0 rfl) ?_
    refine s_getR (r := 5) hC dX8_air_53 fk_8_35 ty_0 (fr_8_3 ty_0).1 ?_
    refine s_callVv (avs := []) (st := []) hC dX8_air_56 ml_8_86 mi_X6_clear ty_5 rfl (t_X6_clear  hp) (Nat.le_of_ble_eq_true rfl) ⟨rfl, rfl⟩ ⟨Nat.le_of_ble_eq_true rfl, Nat.le_of_ble_eq_true rfl⟩ (fun h_56 hp => ?_)
    refine x_iconst hC dX8_air_59 ic_0 ?_
    refine x_istore_n (lv' := [(1, .int 0), (0, .ref 0)]) hC dX8_air_60 (by decide) rfl ?_
    refine x_subk (lv' := [(0, .ref 0), (1, .int 0)]) [1, 0] rfl ?_
    refine hp (fun i1_61 h_61 => SW C gC 61 [(0, .ref 0), (1, .int i1_61)] [] h_61) (fun i1_61 h_61 hp => ?_)
    refine x_iload_n hC dX8_air_61 (lm 1 rfl) ?_
    refine x_iconst hC dX8_air_62 ic_4 ?_
    refine x_icmp_ge (tgt := 90) hC dX8_air_63 (by decide) (fun hc => ?_) (fun hc => ?_)
    · have hp := hp.1 hc
      refine x_aload_n hC dX8_air_90 (lm 0 rfl) ?_
      refine s_getR (r := 3) hC dX8_air_91 fk_8_19 ty_0 (fr_8_1 ty_0).1 ?_
      refine s_getI hC dX8_air_94 fk_8_91 ty_3 ?_
      refine x_aload_n hC dX8_air_97 (lm 0 rfl) ?_
      refine s_getR (r := 3) hC dX8_air_98 fk_8_19 ty_0 (fr_8_1 ty_0).1 ?_
      refine s_getI hC dX8_air_101 fk_8_94 ty_3 ?_
      refine x_iadd hC dX8_air_104 ?_
      exact x_iret hC hE dX8_air_105 ⟨_, _, rfl, rfl, hp⟩
    · have hp := hp.2 hc
      refine x_aload_n hC dX8_air_66 (lm 0 rfl) ?_
      refine s_getR (r := 32) hC dX8_air_67 fk_8_41 ty_0 (fr_8_4 ty_0).1 ?_
      refine x_iload_n hC dX8_air_70 (lm 1 rfl) ?_
      obtain ⟨ho_71, hp⟩ := hp
      refine s_aald (r := 34 + 11 * i1_61.toNatClampNeg) (ci := 3) hC dX8_air_71 (by decide) (by decide) ((fr_8_4 ty_0).2) ho_71 (el_32 ho_71).1 ?_
      refine s_callVv (avs := []) (st := []) hC dX8_air_72 ml_8_87 mi_X3_vanish ((el_32 ho_71).2) rfl (t_X3_vanish ((el_32 ho_71).2) hp) (Nat.le_of_ble_eq_true rfl) ⟨rfl, rfl⟩ ⟨Nat.le_of_ble_eq_true rfl, Nat.le_of_ble_eq_true rfl⟩ (fun h_72 hp => ?_)
      refine x_aload_n hC dX8_air_75 (lm 0 rfl) ?_
      refine s_getR (r := 33) hC dX8_air_76 fk_8_47 ty_0 (fr_8_5 ty_0).1 ?_
      refine x_iload_n hC dX8_air_79 (lm 1 rfl) ?_
      obtain ⟨ho_80, hp⟩ := hp
      refine s_aald (r := 41 + 11 * i1_61.toNatClampNeg) (ci := 1) hC dX8_air_80 (by decide) (by decide) ((fr_8_5 ty_0).2) ho_80 (el_33 ho_80).1 ?_
      refine s_callVv (avs := []) (st := []) hC dX8_air_81 ml_8_90 mi_X1_vanish ((el_33 ho_80).2) rfl (t_X1_vanish ((el_33 ho_80).2) hp) (Nat.le_of_ble_eq_true rfl) ⟨rfl, rfl⟩ ⟨Nat.le_of_ble_eq_true rfl, Nat.le_of_ble_eq_true rfl⟩ (fun h_81 hp => ?_)
      refine x_iinc (u := i1_61 + 1) (lv' := [(1, .int (i1_61 + 1)), (0, .ref 0)]) hC dX8_air_84 (lm 1 rfl) (congrArg _ ic_1) (by decide) rfl ?_
      refine x_goto (tgt := 61) hC dX8_air_87 (by decide) ?_
      exact x_subk [1, 0] rfl hp
  · have hp := hp.2 hc
    refine x_bipush hC dX8_air_10 bp_m103 ?_
    exact x_iret hC hE dX8_air_12 ⟨_, _, rfl, rfl, hp⟩
theorem dX8_isClass_0 : decode cX8_isClass 0 = .ok (.iload_n 0, 1) := by decide +kernel
theorem dX8_isClass_1 : decode cX8_isClass 1 = .ok (.iconst 0, 1) := by decide +kernel
theorem dX8_isClass_2 : decode cX8_isClass 2 = .ok (.iconst 3, 1) := by decide +kernel
theorem dX8_isClass_3 : decode cX8_isClass 3 = .ok (.invokestatic 53, 3) := by decide +kernel
theorem dX8_isClass_6 : decode cX8_isClass 6 = .ok (.ireturn, 1) := by decide +kernel
abbrev rm_X8_isClass : Room := { frames := 1, cells := 0, slots := 0, locals := 22 }
def P_X8_isClass (i0 : Int32) (h : HP) (Q : Int32 → HP → Prop) : Prop := P_X8_within i0 0 3 h (fun (v_3 : Int32) (h_3 : HP) => (v_3 = 0 ∨ v_3 = 1) ∧ Q v_3 h_3)
set_option maxHeartbeats 4000000 in
theorem t_X8_isClass {i0 : Int32} {h : HP} {Q : Int32 → HP → Prop}  (hp : P_X8_isClass i0 h Q) : MT yX8_isClass cX8_isClass 1 (some .boolean) rm_X8_isClass [.int i0] gC SH (emb h) (pI Q) := by
  refine MT.of (by decide +kernel) (Nat.le_of_ble_eq_true rfl) (fun C hC hE => ?_)
  show SW C gC 0 [(0, .int i0)] [] h
  unfold P_X8_isClass at hp
  refine x_iload_n hC dX8_isClass_0 (lm 0 rfl) ?_
  refine x_iconst hC dX8_isClass_1 ic_0 ?_
  refine x_iconst hC dX8_isClass_2 ic_3 ?_
  refine s_callSi (avs := [.int i0, .int 0, .int 3]) (st := []) hC dX8_isClass_3 ml_8_53 ms_X8_within rfl (t_X8_within  hp) (Nat.le_of_ble_eq_true rfl) ⟨rfl, rfl⟩ ⟨Nat.le_of_ble_eq_true rfl, Nat.le_of_ble_eq_true rfl⟩ (fun v_3 h_3 hp => ?_)
  obtain ⟨ho, hp⟩ := hp
  exact x_zret hC hE dX8_isClass_6 ho ⟨_, _, rfl, rfl, hp⟩
theorem dX8_open_0 : decode cX8_open 0 = .ok (.aload_n 0, 1) := by decide +kernel
theorem dX8_open_1 : decode cX8_open 1 = .ok (.getfield 19, 3) := by decide +kernel
theorem dX8_open_4 : decode cX8_open 4 = .ok (.getfield 97, 3) := by decide +kernel
theorem dX8_open_7 : decode cX8_open 7 = .ok (.ifCond .ne 6, 3) := by decide +kernel
theorem dX8_open_10 : decode cX8_open 10 = .ok (.bipush (-103), 2) := by decide +kernel
theorem dX8_open_12 : decode cX8_open 12 = .ok (.ireturn, 1) := by decide +kernel
theorem dX8_open_13 : decode cX8_open 13 = .ok (.iload_n 1, 1) := by decide +kernel
theorem dX8_open_14 : decode cX8_open 14 = .ok (.invokestatic 101, 3) := by decide +kernel
theorem dX8_open_17 : decode cX8_open 17 = .ok (.ifCond .ne 6, 3) := by decide +kernel
theorem dX8_open_20 : decode cX8_open 20 = .ok (.bipush (-101), 2) := by decide +kernel
theorem dX8_open_22 : decode cX8_open 22 = .ok (.ireturn, 1) := by decide +kernel
theorem dX8_open_23 : decode cX8_open 23 = .ok (.iload_n 2, 1) := by decide +kernel
theorem dX8_open_24 : decode cX8_open 24 = .ok (.iconst 0, 1) := by decide +kernel
theorem dX8_open_25 : decode cX8_open 25 = .ok (.iconst 2, 1) := by decide +kernel
theorem dX8_open_26 : decode cX8_open 26 = .ok (.invokestatic 53, 3) := by decide +kernel
theorem dX8_open_29 : decode cX8_open 29 = .ok (.ifCond .eq 34, 3) := by decide +kernel
theorem dX8_open_32 : decode cX8_open 32 = .ok (.iload_n 3, 1) := by decide +kernel
theorem dX8_open_33 : decode cX8_open 33 = .ok (.iconst 1, 1) := by decide +kernel
theorem dX8_open_34 : decode cX8_open 34 = .ok (.bipush 15, 2) := by decide +kernel
theorem dX8_open_36 : decode cX8_open 36 = .ok (.invokestatic 53, 3) := by decide +kernel
theorem dX8_open_39 : decode cX8_open 39 = .ok (.ifCond .eq 24, 3) := by decide +kernel
theorem dX8_open_42 : decode cX8_open 42 = .ok (.iload 4, 2) := by decide +kernel
theorem dX8_open_44 : decode cX8_open 44 = .ok (.iconst 1, 1) := by decide +kernel
theorem dX8_open_45 : decode cX8_open 45 = .ok (.iconst 4, 1) := by decide +kernel
theorem dX8_open_46 : decode cX8_open 46 = .ok (.invokestatic 53, 3) := by decide +kernel
theorem dX8_open_49 : decode cX8_open 49 = .ok (.ifCond .eq 14, 3) := by decide +kernel
theorem dX8_open_52 : decode cX8_open 52 = .ok (.iload 5, 2) := by decide +kernel
theorem dX8_open_54 : decode cX8_open 54 = .ok (.iconst 1, 1) := by decide +kernel
theorem dX8_open_55 : decode cX8_open 55 = .ok (.bipush 20, 2) := by decide +kernel
theorem dX8_open_57 : decode cX8_open 57 = .ok (.invokestatic 53, 3) := by decide +kernel
theorem dX8_open_60 : decode cX8_open 60 = .ok (.ifCond .ne 6, 3) := by decide +kernel
theorem dX8_open_63 : decode cX8_open 63 = .ok (.bipush (-102), 2) := by decide +kernel
theorem dX8_open_65 : decode cX8_open 65 = .ok (.ireturn, 1) := by decide +kernel
theorem dX8_open_66 : decode cX8_open 66 = .ok (.aload_n 0, 1) := by decide +kernel
theorem dX8_open_67 : decode cX8_open 67 = .ok (.getfield 41, 3) := by decide +kernel
theorem dX8_open_70 : decode cX8_open 70 = .ok (.iload_n 1, 1) := by decide +kernel
theorem dX8_open_71 : decode cX8_open 71 = .ok (.aaload, 1) := by decide +kernel
theorem dX8_open_72 : decode cX8_open 72 = .ok (.getfield 104, 3) := by decide +kernel
theorem dX8_open_75 : decode cX8_open 75 = .ok (.ifCond .ne 14, 3) := by decide +kernel
theorem dX8_open_78 : decode cX8_open 78 = .ok (.aload_n 0, 1) := by decide +kernel
theorem dX8_open_79 : decode cX8_open 79 = .ok (.getfield 35, 3) := by decide +kernel
theorem dX8_open_82 : decode cX8_open 82 = .ok (.iload_n 1, 1) := by decide +kernel
theorem dX8_open_83 : decode cX8_open 83 = .ok (.invokevirtual 107, 3) := by decide +kernel
theorem dX8_open_86 : decode cX8_open 86 = .ok (.ifCond .le 6, 3) := by decide +kernel
theorem dX8_open_89 : decode cX8_open 89 = .ok (.bipush (-103), 2) := by decide +kernel
theorem dX8_open_91 : decode cX8_open 91 = .ok (.ireturn, 1) := by decide +kernel
theorem dX8_open_92 : decode cX8_open 92 = .ok (.aload_n 0, 1) := by decide +kernel
theorem dX8_open_93 : decode cX8_open 93 = .ok (.getfield 41, 3) := by decide +kernel
theorem dX8_open_96 : decode cX8_open 96 = .ok (.iload_n 1, 1) := by decide +kernel
theorem dX8_open_97 : decode cX8_open 97 = .ok (.aaload, 1) := by decide +kernel
theorem dX8_open_98 : decode cX8_open 98 = .ok (.iload 4, 2) := by decide +kernel
theorem dX8_open_100 : decode cX8_open 100 = .ok (.invokevirtual 111, 3) := by decide +kernel
theorem dX8_open_103 : decode cX8_open 103 = .ok (.aload_n 0, 1) := by decide +kernel
theorem dX8_open_104 : decode cX8_open 104 = .ok (.getfield 35, 3) := by decide +kernel
theorem dX8_open_107 : decode cX8_open 107 = .ok (.iload_n 1, 1) := by decide +kernel
theorem dX8_open_108 : decode cX8_open 108 = .ok (.iconst 0, 1) := by decide +kernel
theorem dX8_open_109 : decode cX8_open 109 = .ok (.invokevirtual 115, 3) := by decide +kernel
theorem dX8_open_112 : decode cX8_open 112 = .ok (.astore 6, 2) := by decide +kernel
theorem dX8_open_114 : decode cX8_open 114 = .ok (.aload 6, 2) := by decide +kernel
theorem dX8_open_116 : decode cX8_open 116 = .ok (.iload_n 2, 1) := by decide +kernel
theorem dX8_open_117 : decode cX8_open 117 = .ok (.putfield 119, 3) := by decide +kernel
theorem dX8_open_120 : decode cX8_open 120 = .ok (.aload 6, 2) := by decide +kernel
theorem dX8_open_122 : decode cX8_open 122 = .ok (.iload_n 3, 1) := by decide +kernel
theorem dX8_open_123 : decode cX8_open 123 = .ok (.putfield 124, 3) := by decide +kernel
theorem dX8_open_126 : decode cX8_open 126 = .ok (.aload 6, 2) := by decide +kernel
theorem dX8_open_128 : decode cX8_open 128 = .ok (.iload 5, 2) := by decide +kernel
theorem dX8_open_130 : decode cX8_open 130 = .ok (.putfield 127, 3) := by decide +kernel
theorem dX8_open_133 : decode cX8_open 133 = .ok (.aload_n 0, 1) := by decide +kernel
theorem dX8_open_134 : decode cX8_open 134 = .ok (.getfield 35, 3) := by decide +kernel
theorem dX8_open_137 : decode cX8_open 137 = .ok (.getfield 130, 3) := by decide +kernel
theorem dX8_open_140 : decode cX8_open 140 = .ok (.ireturn, 1) := by decide +kernel
abbrev rm_X8_open : Room := { frames := 2, cells := 0, slots := 0, locals := 45 }
def P_X8_open (i1 : Int32) (i2 : Int32) (i3 : Int32) (i4 : Int32) (i5 : Int32) (h : HP) (Q : Int32 → HP → Prop) : Prop := ((¬ (h.1 3 0) = 0) → (P_X8_isClass i1 h (fun (v_14 : Int32) (h_14 : HP) => ((¬ v_14 = 0) → (P_X8_within i2 0 2 h_14 (fun (v_26 : Int32) (h_26 : HP) => ((v_26 = 0) → (Q (-102) h_26)) ∧ ((¬ v_26 = 0) → (P_X8_within i3 1 15 h_26 (fun (v_36 : Int32) (h_36 : HP) => ((v_36 = 0) → (Q (-102) h_36)) ∧ ((¬ v_36 = 0) → (P_X8_within i4 1 4 h_36 (fun (v_46 : Int32) (h_46 : HP) => ((v_46 = 0) → (Q (-102) h_46)) ∧ ((¬ v_46 = 0) → (P_X8_within i5 1 20 h_46 (fun (v_57 : Int32) (h_57 : HP) => ((¬ v_57 = 0) → ((vp_in i1 4) ∧ (((¬ (h_57.1 (34 + 11 * i1.toNatClampNeg) 1) = 0) → (Q (-103) h_57)) ∧ (((h_57.1 (34 + 11 * i1.toNatClampNeg) 1) = 0) → (P_X6_countOf i1 h_57 (fun (v_83 : Int32) (h_83 : HP) => ((v_83 ≤ 0) → ((vp_in i1 4) ∧ (P_X3_ask (34 + 11 * i1.toNatClampNeg) i4 h_83 (fun (h_100 : HP) => P_X6_send i1 0 h_100 (fun (v_109 : Nat) (h_109 : HP) => (Ty gC v_109 2 0) ∧ (Q ((si (si (si h_109 v_109 2 i2) v_109 3 i3) v_109 4 i5).1 5 2) (si (si (si h_109 v_109 2 i2) v_109 3 i3) v_109 4 i5))))))) ∧ ((¬ v_83 ≤ 0) → (Q (-103) h_83)))))))) ∧ ((v_57 = 0) → (Q (-102) h_57)))))))))))))) ∧ ((v_14 = 0) → (Q (-101) h_14))))) ∧ (((h.1 3 0) = 0) → (Q (-103) h))
set_option maxHeartbeats 4000000 in
theorem t_X8_open {i1 : Int32} {i2 : Int32} {i3 : Int32} {i4 : Int32} {i5 : Int32} {h : HP} {Q : Int32 → HP → Prop}  (hp : P_X8_open i1 i2 i3 i4 i5 h Q) : MT yX8_open cX8_open 7 (some .int) rm_X8_open [.ref 0, .int i1, .int i2, .int i3, .int i4, .int i5] gC SH (emb h) (pI Q) := by
  refine MT.of (by decide +kernel) (Nat.le_of_ble_eq_true rfl) (fun C hC hE => ?_)
  show SW C gC 0 [(0, .ref 0), (1, .int i1), (2, .int i2), (3, .int i3), (4, .int i4), (5, .int i5)] [] h
  unfold P_X8_open at hp
  refine x_aload_n hC dX8_open_0 (lm 0 rfl) ?_
  refine s_getR (r := 3) hC dX8_open_1 fk_8_19 ty_0 (fr_8_1 ty_0).1 ?_
  refine s_getZ hC dX8_open_4 fk_8_97 ty_3 ?_
  refine x_if_ne (tgt := 13) hC dX8_open_7 (by decide) (fun hc => ?_) (fun hc => ?_)
  · have hp := hp.1 hc
    refine x_iload_n hC dX8_open_13 (lm 1 rfl) ?_
    refine s_callSi (avs := [.int i1]) (st := []) hC dX8_open_14 ml_8_101 ms_X8_isClass rfl (t_X8_isClass  hp) (Nat.le_of_ble_eq_true rfl) ⟨rfl, rfl⟩ ⟨Nat.le_of_ble_eq_true rfl, Nat.le_of_ble_eq_true rfl⟩ (fun v_14 h_14 hp => ?_)
    refine x_if_ne (tgt := 23) hC dX8_open_17 (by decide) (fun hc => ?_) (fun hc => ?_)
    · have hp := hp.1 hc
      refine x_iload_n hC dX8_open_23 (lm 2 rfl) ?_
      refine x_iconst hC dX8_open_24 ic_0 ?_
      refine x_iconst hC dX8_open_25 ic_2 ?_
      refine s_callSi (avs := [.int i2, .int 0, .int 2]) (st := []) hC dX8_open_26 ml_8_53 ms_X8_within rfl (t_X8_within  hp) (Nat.le_of_ble_eq_true rfl) ⟨rfl, rfl⟩ ⟨Nat.le_of_ble_eq_true rfl, Nat.le_of_ble_eq_true rfl⟩ (fun v_26 h_26 hp => ?_)
      refine x_if_eq (tgt := 63) hC dX8_open_29 (by decide) (fun hc => ?_) (fun hc => ?_)
      · have hp := hp.1 hc
        refine x_bipush hC dX8_open_63 bp_m102 ?_
        exact x_iret hC hE dX8_open_65 ⟨_, _, rfl, rfl, hp⟩
      · have hp := hp.2 hc
        refine x_iload_n hC dX8_open_32 (lm 3 rfl) ?_
        refine x_iconst hC dX8_open_33 ic_1 ?_
        refine x_bipush hC dX8_open_34 bp_15 ?_
        refine s_callSi (avs := [.int i3, .int 1, .int 15]) (st := []) hC dX8_open_36 ml_8_53 ms_X8_within rfl (t_X8_within  hp) (Nat.le_of_ble_eq_true rfl) ⟨rfl, rfl⟩ ⟨Nat.le_of_ble_eq_true rfl, Nat.le_of_ble_eq_true rfl⟩ (fun v_36 h_36 hp => ?_)
        refine x_if_eq (tgt := 63) hC dX8_open_39 (by decide) (fun hc => ?_) (fun hc => ?_)
        · have hp := hp.1 hc
          refine x_bipush hC dX8_open_63 bp_m102 ?_
          exact x_iret hC hE dX8_open_65 ⟨_, _, rfl, rfl, hp⟩
        · have hp := hp.2 hc
          refine x_iload hC dX8_open_42 (lm 4 rfl) ?_
          refine x_iconst hC dX8_open_44 ic_1 ?_
          refine x_iconst hC dX8_open_45 ic_4 ?_
          refine s_callSi (avs := [.int i4, .int 1, .int 4]) (st := []) hC dX8_open_46 ml_8_53 ms_X8_within rfl (t_X8_within  hp) (Nat.le_of_ble_eq_true rfl) ⟨rfl, rfl⟩ ⟨Nat.le_of_ble_eq_true rfl, Nat.le_of_ble_eq_true rfl⟩ (fun v_46 h_46 hp => ?_)
          refine x_if_eq (tgt := 63) hC dX8_open_49 (by decide) (fun hc => ?_) (fun hc => ?_)
          · have hp := hp.1 hc
            refine x_bipush hC dX8_open_63 bp_m102 ?_
            exact x_iret hC hE dX8_open_65 ⟨_, _, rfl, rfl, hp⟩
          · have hp := hp.2 hc
            refine x_iload hC dX8_open_52 (lm 5 rfl) ?_
            refine x_iconst hC dX8_open_54 ic_1 ?_
            refine x_bipush hC dX8_open_55 bp_20 ?_
            refine s_callSi (avs := [.int i5, .int 1, .int 20]) (st := []) hC dX8_open_57 ml_8_53 ms_X8_within rfl (t_X8_within  hp) (Nat.le_of_ble_eq_true rfl) ⟨rfl, rfl⟩ ⟨Nat.le_of_ble_eq_true rfl, Nat.le_of_ble_eq_true rfl⟩ (fun v_57 h_57 hp => ?_)
            refine x_if_ne (tgt := 66) hC dX8_open_60 (by decide) (fun hc => ?_) (fun hc => ?_)
            · have hp := hp.1 hc
              refine x_aload_n hC dX8_open_66 (lm 0 rfl) ?_
              refine s_getR (r := 32) hC dX8_open_67 fk_8_41 ty_0 (fr_8_4 ty_0).1 ?_
              refine x_iload_n hC dX8_open_70 (lm 1 rfl) ?_
              obtain ⟨ho_71, hp⟩ := hp
              refine s_aald (r := 34 + 11 * i1.toNatClampNeg) (ci := 3) hC dX8_open_71 (by decide) (by decide) ((fr_8_4 ty_0).2) ho_71 (el_32 ho_71).1 ?_
              refine s_getI hC dX8_open_72 fk_8_104 ((el_32 ho_71).2) ?_
              refine x_if_ne (tgt := 89) hC dX8_open_75 (by decide) (fun hc => ?_) (fun hc => ?_)
              · have hp := hp.1 hc
                refine x_bipush hC dX8_open_89 bp_m103 ?_
                exact x_iret hC hE dX8_open_91 ⟨_, _, rfl, rfl, hp⟩
              · have hp := hp.2 hc
                refine x_aload_n hC dX8_open_78 (lm 0 rfl) ?_
                refine s_getR (r := 5) hC dX8_open_79 fk_8_35 ty_0 (fr_8_3 ty_0).1 ?_
                refine x_iload_n hC dX8_open_82 (lm 1 rfl) ?_
                refine s_callVi (avs := [.int i1]) (st := []) hC dX8_open_83 ml_8_107 mi_X6_countOf ty_5 rfl (t_X6_countOf  hp) (Nat.le_of_ble_eq_true rfl) ⟨rfl, rfl⟩ ⟨Nat.le_of_ble_eq_true rfl, Nat.le_of_ble_eq_true rfl⟩ (fun v_83 h_83 hp => ?_)
                refine x_if_le (tgt := 92) hC dX8_open_86 (by decide) (fun hc => ?_) (fun hc => ?_)
                · have hp := hp.1 hc
                  refine x_aload_n hC dX8_open_92 (lm 0 rfl) ?_
                  refine s_getR (r := 32) hC dX8_open_93 fk_8_41 ty_0 (fr_8_4 ty_0).1 ?_
                  refine x_iload_n hC dX8_open_96 (lm 1 rfl) ?_
                  obtain ⟨ho_97, hp⟩ := hp
                  refine s_aald (r := 34 + 11 * i1.toNatClampNeg) (ci := 3) hC dX8_open_97 (by decide) (by decide) ((fr_8_4 ty_0).2) ho_97 (el_32 ho_97).1 ?_
                  refine x_iload hC dX8_open_98 (lm 4 rfl) ?_
                  refine s_callVv (avs := [.int i4]) (st := []) hC dX8_open_100 ml_8_111 mi_X3_ask ((el_32 ho_97).2) rfl (t_X3_ask ((el_32 ho_97).2) hp) (Nat.le_of_ble_eq_true rfl) ⟨rfl, rfl⟩ ⟨Nat.le_of_ble_eq_true rfl, Nat.le_of_ble_eq_true rfl⟩ (fun h_100 hp => ?_)
                  refine x_aload_n hC dX8_open_103 (lm 0 rfl) ?_
                  refine s_getR (r := 5) hC dX8_open_104 fk_8_35 ty_0 (fr_8_3 ty_0).1 ?_
                  refine x_iload_n hC dX8_open_107 (lm 1 rfl) ?_
                  refine x_iconst hC dX8_open_108 ic_0 ?_
                  refine s_callVr (avs := [.int i1, .int 0]) (st := []) hC dX8_open_109 ml_8_115 mi_X6_send ty_5 rfl (t_X6_send  hp) (Nat.le_of_ble_eq_true rfl) ⟨rfl, rfl⟩ ⟨Nat.le_of_ble_eq_true rfl, Nat.le_of_ble_eq_true rfl⟩ (fun v_109 h_109 hp => ?_)
                  obtain ⟨ht_109, hp⟩ := hp
                  refine x_astore (lv' := [(6, .ref v_109), (0, .ref 0), (1, .int i1), (2, .int i2), (3, .int i3), (4, .int i4), (5, .int i5)]) hC dX8_open_112 (by decide) rfl ?_
                  refine x_aload hC dX8_open_114 (lm 0 rfl) ?_
                  refine x_iload_n hC dX8_open_116 (lm 3 rfl) ?_
                  refine s_putI hC dX8_open_117 fk_8_119 rfl rfl ht_109 ?_
                  refine x_aload hC dX8_open_120 (lm 0 rfl) ?_
                  refine x_iload_n hC dX8_open_122 (lm 4 rfl) ?_
                  refine s_putI hC dX8_open_123 fk_8_124 rfl rfl ht_109 ?_
                  refine x_aload hC dX8_open_126 (lm 0 rfl) ?_
                  refine x_iload hC dX8_open_128 (lm 6 rfl) ?_
                  refine s_putI hC dX8_open_130 fk_8_127 rfl rfl ht_109 ?_
                  refine x_aload_n hC dX8_open_133 (lm 1 rfl) ?_
                  refine s_getR (r := 5) hC dX8_open_134 fk_8_35 ty_0 (fr_8_3 ty_0).1 ?_
                  refine s_getI hC dX8_open_137 fk_8_130 ty_5 ?_
                  exact x_iret hC hE dX8_open_140 ⟨_, _, rfl, rfl, hp⟩
                · have hp := hp.2 hc
                  refine x_bipush hC dX8_open_89 bp_m103 ?_
                  exact x_iret hC hE dX8_open_91 ⟨_, _, rfl, rfl, hp⟩
            · have hp := hp.2 hc
              refine x_bipush hC dX8_open_63 bp_m102 ?_
              exact x_iret hC hE dX8_open_65 ⟨_, _, rfl, rfl, hp⟩
    · have hp := hp.2 hc
      refine x_bipush hC dX8_open_20 bp_m101 ?_
      exact x_iret hC hE dX8_open_22 ⟨_, _, rfl, rfl, hp⟩
  · have hp := hp.2 hc
    refine x_bipush hC dX8_open_10 bp_m103 ?_
    exact x_iret hC hE dX8_open_12 ⟨_, _, rfl, rfl, hp⟩
theorem dX8_isClassOfAir_0 : decode cX8_isClassOfAir 0 = .ok (.aload_n 0, 1) := by decide +kernel
theorem dX8_isClassOfAir_1 : decode cX8_isClassOfAir 1 = .ok (.getfield 19, 3) := by decide +kernel
theorem dX8_isClassOfAir_4 : decode cX8_isClassOfAir 4 = .ok (.getfield 97, 3) := by decide +kernel
theorem dX8_isClassOfAir_7 : decode cX8_isClassOfAir 7 = .ok (.ifCond .eq 14, 3) := by decide +kernel
theorem dX8_isClassOfAir_10 : decode cX8_isClassOfAir 10 = .ok (.iload_n 1, 1) := by decide +kernel
theorem dX8_isClassOfAir_11 : decode cX8_isClassOfAir 11 = .ok (.invokestatic 101, 3) := by decide +kernel
theorem dX8_isClassOfAir_14 : decode cX8_isClassOfAir 14 = .ok (.ifCond .eq 7, 3) := by decide +kernel
theorem dX8_isClassOfAir_17 : decode cX8_isClassOfAir 17 = .ok (.iconst 1, 1) := by decide +kernel
theorem dX8_isClassOfAir_18 : decode cX8_isClassOfAir 18 = .ok (.goto 4, 3) := by decide +kernel
theorem dX8_isClassOfAir_21 : decode cX8_isClassOfAir 21 = .ok (.iconst 0, 1) := by decide +kernel
theorem dX8_isClassOfAir_22 : decode cX8_isClassOfAir 22 = .ok (.ireturn, 1) := by decide +kernel
abbrev rm_X8_isClassOfAir : Room := { frames := 2, cells := 0, slots := 0, locals := 42 }
def P_X8_isClassOfAir (i1 : Int32) (h : HP) (Q : Int32 → HP → Prop) : Prop := (((h.1 3 0) = 0) → Q 0 h) ∧ ((¬ (h.1 3 0) = 0) → (P_X8_isClass i1 h (fun (v_11 : Int32) (h_11 : HP) => ((v_11 = 0) → Q 0 h_11) ∧ ((¬ v_11 = 0) → Q 1 h_11))))
set_option maxHeartbeats 4000000 in
theorem t_X8_isClassOfAir {i1 : Int32} {h : HP} {Q : Int32 → HP → Prop}  (hp : P_X8_isClassOfAir i1 h Q) : MT yX8_isClassOfAir cX8_isClassOfAir 2 (some .boolean) rm_X8_isClassOfAir [.ref 0, .int i1] gC SH (emb h) (pI Q) := by
  refine MT.of (by decide +kernel) (Nat.le_of_ble_eq_true rfl) (fun C hC hE => ?_)
  show SW C gC 0 [(0, .ref 0), (1, .int i1)] [] h
  unfold P_X8_isClassOfAir at hp
  refine x_aload_n hC dX8_isClassOfAir_0 (lm 0 rfl) ?_
  refine s_getR (r := 3) hC dX8_isClassOfAir_1 fk_8_19 ty_0 (fr_8_1 ty_0).1 ?_
  refine s_getZ hC dX8_isClassOfAir_4 fk_8_97 ty_3 ?_
  refine x_if_eq (tgt := 21) hC dX8_isClassOfAir_7 (by decide) (fun hc => ?_) (fun hc => ?_)
  · have hp := hp.1 hc
    refine x_iconst hC dX8_isClassOfAir_21 ic_0 ?_
    exact x_zret hC hE dX8_isClassOfAir_22 (Or.inl rfl) ⟨_, _, rfl, rfl, hp⟩
  · have hp := hp.2 hc
    refine x_iload_n hC dX8_isClassOfAir_10 (lm 1 rfl) ?_
    refine s_callSi (avs := [.int i1]) (st := []) hC dX8_isClassOfAir_11 ml_8_101 ms_X8_isClass rfl (t_X8_isClass  hp) (Nat.le_of_ble_eq_true rfl) ⟨rfl, rfl⟩ ⟨Nat.le_of_ble_eq_true rfl, Nat.le_of_ble_eq_true rfl⟩ (fun v_11 h_11 hp => ?_)
    refine x_if_eq (tgt := 21) hC dX8_isClassOfAir_14 (by decide) (fun hc => ?_) (fun hc => ?_)
    · have hp := hp.1 hc
      refine x_iconst hC dX8_isClassOfAir_21 ic_0 ?_
      exact x_zret hC hE dX8_isClassOfAir_22 (Or.inl rfl) ⟨_, _, rfl, rfl, hp⟩
    · have hp := hp.2 hc
      refine x_iconst hC dX8_isClassOfAir_17 ic_1 ?_
      refine x_goto (tgt := 22) hC dX8_isClassOfAir_18 (by decide) ?_
      exact x_zret hC hE dX8_isClassOfAir_22 (Or.inr rfl) ⟨_, _, rfl, rfl, hp⟩
theorem dX8_close_0 : decode cX8_close 0 = .ok (.aload_n 0, 1) := by decide +kernel
theorem dX8_close_1 : decode cX8_close 1 = .ok (.iload_n 1, 1) := by decide +kernel
theorem dX8_close_2 : decode cX8_close 2 = .ok (.invokevirtual 131, 3) := by decide +kernel
theorem dX8_close_5 : decode cX8_close 5 = .ok (.ifCond .ne 6, 3) := by decide +kernel
theorem dX8_close_8 : decode cX8_close 8 = .ok (.bipush (-101), 2) := by decide +kernel
theorem dX8_close_10 : decode cX8_close 10 = .ok (.ireturn, 1) := by decide +kernel
theorem dX8_close_11 : decode cX8_close 11 = .ok (.aload_n 0, 1) := by decide +kernel
theorem dX8_close_12 : decode cX8_close 12 = .ok (.getfield 41, 3) := by decide +kernel
theorem dX8_close_15 : decode cX8_close 15 = .ok (.iload_n 1, 1) := by decide +kernel
theorem dX8_close_16 : decode cX8_close 16 = .ok (.aaload, 1) := by decide +kernel
theorem dX8_close_17 : decode cX8_close 17 = .ok (.astore_n 2, 1) := by decide +kernel
theorem dX8_close_18 : decode cX8_close 18 = .ok (.aload_n 2, 1) := by decide +kernel
theorem dX8_close_19 : decode cX8_close 19 = .ok (.getfield 104, 3) := by decide +kernel
theorem dX8_close_22 : decode cX8_close 22 = .ok (.iconst 2, 1) := by decide +kernel
theorem dX8_close_23 : decode cX8_close 23 = .ok (.if_icmp .ne 10, 3) := by decide +kernel
theorem dX8_close_26 : decode cX8_close 26 = .ok (.aload_n 2, 1) := by decide +kernel
theorem dX8_close_27 : decode cX8_close 27 = .ok (.getfield 134, 3) := by decide +kernel
theorem dX8_close_30 : decode cX8_close 30 = .ok (.ifCond .eq 6, 3) := by decide +kernel
theorem dX8_close_33 : decode cX8_close 33 = .ok (.bipush (-103), 2) := by decide +kernel
theorem dX8_close_35 : decode cX8_close 35 = .ok (.ireturn, 1) := by decide +kernel
theorem dX8_close_36 : decode cX8_close 36 = .ok (.aload_n 2, 1) := by decide +kernel
theorem dX8_close_37 : decode cX8_close 37 = .ok (.getfield 137, 3) := by decide +kernel
theorem dX8_close_40 : decode cX8_close 40 = .ok (.aload_n 2, 1) := by decide +kernel
theorem dX8_close_41 : decode cX8_close 41 = .ok (.invokevirtual 140, 3) := by decide +kernel
theorem dX8_close_44 : decode cX8_close 44 = .ok (.iadd, 1) := by decide +kernel
theorem dX8_close_45 : decode cX8_close 45 = .ok (.istore_n 3, 1) := by decide +kernel
theorem dX8_close_46 : decode cX8_close 46 = .ok (.aload_n 2, 1) := by decide +kernel
theorem dX8_close_47 : decode cX8_close 47 = .ok (.invokevirtual 87, 3) := by decide +kernel
theorem dX8_close_50 : decode cX8_close 50 = .ok (.aload_n 0, 1) := by decide +kernel
theorem dX8_close_51 : decode cX8_close 51 = .ok (.getfield 35, 3) := by decide +kernel
theorem dX8_close_54 : decode cX8_close 54 = .ok (.iload_n 1, 1) := by decide +kernel
theorem dX8_close_55 : decode cX8_close 55 = .ok (.iconst 5, 1) := by decide +kernel
theorem dX8_close_56 : decode cX8_close 56 = .ok (.invokevirtual 115, 3) := by decide +kernel
theorem dX8_close_59 : decode cX8_close 59 = .ok (.pop, 1) := by decide +kernel
theorem dX8_close_60 : decode cX8_close 60 = .ok (.iload_n 3, 1) := by decide +kernel
theorem dX8_close_61 : decode cX8_close 61 = .ok (.ireturn, 1) := by decide +kernel
abbrev rm_X8_close : Room := { frames := 3, cells := 0, slots := 0, locals := 64 }
def P_X8_close (i1 : Int32) (h : HP) (Q : Int32 → HP → Prop) : Prop := P_X8_isClassOfAir i1 h (fun (v_2 : Int32) (h_2 : HP) => ((¬ v_2 = 0) → ((vp_in i1 4) ∧ (((¬ (h_2.1 (34 + 11 * i1.toNatClampNeg) 1) = 2) → (Q (-103) h_2)) ∧ (((h_2.1 (34 + 11 * i1.toNatClampNeg) 1) = 2) → ((((h_2.1 (34 + 11 * i1.toNatClampNeg) 8) = 0) → (P_X3_undone (34 + 11 * i1.toNatClampNeg) h_2 (fun (v_41 : Int32) (h_41 : HP) => P_X3_vanish (34 + 11 * i1.toNatClampNeg) h_41 (fun (h_47 : HP) => P_X6_send i1 5 h_47 (fun (v_56 : Nat) (h_56 : HP) => (Ty gC v_56 2 0) ∧ (Q ((h_2.1 (34 + 11 * i1.toNatClampNeg) 6) + v_41) h_56)))))) ∧ ((¬ (h_2.1 (34 + 11 * i1.toNatClampNeg) 8) = 0) → (Q (-103) h_2))))))) ∧ ((v_2 = 0) → (Q (-101) h_2)))
set_option maxHeartbeats 4000000 in
theorem t_X8_close {i1 : Int32} {h : HP} {Q : Int32 → HP → Prop}  (hp : P_X8_close i1 h Q) : MT yX8_close cX8_close 4 (some .int) rm_X8_close [.ref 0, .int i1] gC SH (emb h) (pI Q) := by
  refine MT.of (by decide +kernel) (Nat.le_of_ble_eq_true rfl) (fun C hC hE => ?_)
  show SW C gC 0 [(0, .ref 0), (1, .int i1)] [] h
  unfold P_X8_close at hp
  refine x_aload_n hC dX8_close_0 (lm 0 rfl) ?_
  refine x_iload_n hC dX8_close_1 (lm 1 rfl) ?_
  refine s_callVi (avs := [.int i1]) (st := []) hC dX8_close_2 ml_8_131 mi_X8_isClassOfAir ty_0 rfl (t_X8_isClassOfAir  hp) (Nat.le_of_ble_eq_true rfl) ⟨rfl, rfl⟩ ⟨Nat.le_of_ble_eq_true rfl, Nat.le_of_ble_eq_true rfl⟩ (fun v_2 h_2 hp => ?_)
  refine x_if_ne (tgt := 11) hC dX8_close_5 (by decide) (fun hc => ?_) (fun hc => ?_)
  · have hp := hp.1 hc
    refine x_aload_n hC dX8_close_11 (lm 0 rfl) ?_
    refine s_getR (r := 32) hC dX8_close_12 fk_8_41 ty_0 (fr_8_4 ty_0).1 ?_
    refine x_iload_n hC dX8_close_15 (lm 1 rfl) ?_
    obtain ⟨ho_16, hp⟩ := hp
    refine s_aald (r := 34 + 11 * i1.toNatClampNeg) (ci := 3) hC dX8_close_16 (by decide) (by decide) ((fr_8_4 ty_0).2) ho_16 (el_32 ho_16).1 ?_
    refine x_astore_n (lv' := [(2, .ref (34 + 11 * i1.toNatClampNeg)), (0, .ref 0), (1, .int i1)]) hC dX8_close_17 (by decide) rfl ?_
    refine x_aload_n hC dX8_close_18 (lm 0 rfl) ?_
    refine s_getI hC dX8_close_19 fk_8_104 ((el_32 ho_16).2) ?_
    refine x_iconst hC dX8_close_22 ic_2 ?_
    refine x_icmp_ne (tgt := 33) hC dX8_close_23 (by decide) (fun hc => ?_) (fun hc => ?_)
    · have hp := hp.1 hc
      refine x_bipush hC dX8_close_33 bp_m103 ?_
      exact x_iret hC hE dX8_close_35 ⟨_, _, rfl, rfl, hp⟩
    · have hp := hp.2 hc
      refine x_aload_n hC dX8_close_26 (lm 0 rfl) ?_
      refine s_getZ hC dX8_close_27 fk_8_134 ((el_32 ho_16).2) ?_
      refine x_if_eq (tgt := 36) hC dX8_close_30 (by decide) (fun hc => ?_) (fun hc => ?_)
      · have hp := hp.1 hc
        refine x_aload_n hC dX8_close_36 (lm 0 rfl) ?_
        refine s_getI hC dX8_close_37 fk_8_137 ((el_32 ho_16).2) ?_
        refine x_aload_n hC dX8_close_40 (lm 0 rfl) ?_
        refine s_callVi (avs := []) (st := [.int (h_2.1 (34 + 11 * i1.toNatClampNeg) 6)]) hC dX8_close_41 ml_8_140 mi_X3_undone ((el_32 ho_16).2) rfl (t_X3_undone ((el_32 ho_16).2) hp) (Nat.le_of_ble_eq_true rfl) ⟨rfl, rfl⟩ ⟨Nat.le_of_ble_eq_true rfl, Nat.le_of_ble_eq_true rfl⟩ (fun v_41 h_41 hp => ?_)
        refine x_iadd hC dX8_close_44 ?_
        refine x_istore_n (lv' := [(3, .int ((h_2.1 (34 + 11 * i1.toNatClampNeg) 6) + v_41)), (2, .ref (34 + 11 * i1.toNatClampNeg)), (0, .ref 0), (1, .int i1)]) hC dX8_close_45 (by decide) rfl ?_
        refine x_aload_n hC dX8_close_46 (lm 1 rfl) ?_
        refine s_callVv (avs := []) (st := []) hC dX8_close_47 ml_8_87 mi_X3_vanish ((el_32 ho_16).2) rfl (t_X3_vanish ((el_32 ho_16).2) hp) (Nat.le_of_ble_eq_true rfl) ⟨rfl, rfl⟩ ⟨Nat.le_of_ble_eq_true rfl, Nat.le_of_ble_eq_true rfl⟩ (fun h_47 hp => ?_)
        refine x_aload_n hC dX8_close_50 (lm 2 rfl) ?_
        refine s_getR (r := 5) hC dX8_close_51 fk_8_35 ty_0 (fr_8_3 ty_0).1 ?_
        refine x_iload_n hC dX8_close_54 (lm 3 rfl) ?_
        refine x_iconst hC dX8_close_55 ic_5 ?_
        refine s_callVr (avs := [.int i1, .int 5]) (st := []) hC dX8_close_56 ml_8_115 mi_X6_send ty_5 rfl (t_X6_send  hp) (Nat.le_of_ble_eq_true rfl) ⟨rfl, rfl⟩ ⟨Nat.le_of_ble_eq_true rfl, Nat.le_of_ble_eq_true rfl⟩ (fun v_56 h_56 hp => ?_)
        obtain ⟨ht_56, hp⟩ := hp
        refine x_pop hC dX8_close_59 rfl ?_
        refine x_iload_n hC dX8_close_60 (lm 0 rfl) ?_
        exact x_iret hC hE dX8_close_61 ⟨_, _, rfl, rfl, hp⟩
      · have hp := hp.2 hc
        refine x_bipush hC dX8_close_33 bp_m103 ?_
        exact x_iret hC hE dX8_close_35 ⟨_, _, rfl, rfl, hp⟩
  · have hp := hp.2 hc
    refine x_bipush hC dX8_close_8 bp_m101 ?_
    exact x_iret hC hE dX8_close_10 ⟨_, _, rfl, rfl, hp⟩
theorem dX8_feed_0 : decode cX8_feed 0 = .ok (.aload_n 0, 1) := by decide +kernel
theorem dX8_feed_1 : decode cX8_feed 1 = .ok (.iload_n 1, 1) := by decide +kernel
theorem dX8_feed_2 : decode cX8_feed 2 = .ok (.invokevirtual 131, 3) := by decide +kernel
theorem dX8_feed_5 : decode cX8_feed 5 = .ok (.ifCond .ne 6, 3) := by decide +kernel
theorem dX8_feed_8 : decode cX8_feed 8 = .ok (.bipush (-101), 2) := by decide +kernel
theorem dX8_feed_10 : decode cX8_feed 10 = .ok (.ireturn, 1) := by decide +kernel
theorem dX8_feed_11 : decode cX8_feed 11 = .ok (.iload_n 2, 1) := by decide +kernel
theorem dX8_feed_12 : decode cX8_feed 12 = .ok (.iconst 1, 1) := by decide +kernel
theorem dX8_feed_13 : decode cX8_feed 13 = .ok (.sipush 999, 3) := by decide +kernel
theorem dX8_feed_16 : decode cX8_feed 16 = .ok (.invokestatic 53, 3) := by decide +kernel
theorem dX8_feed_19 : decode cX8_feed 19 = .ok (.ifCond .eq 13, 3) := by decide +kernel
theorem dX8_feed_22 : decode cX8_feed 22 = .ok (.iload_n 3, 1) := by decide +kernel
theorem dX8_feed_23 : decode cX8_feed 23 = .ok (.iconst 1, 1) := by decide +kernel
theorem dX8_feed_24 : decode cX8_feed 24 = .ok (.bipush 20, 2) := by decide +kernel
theorem dX8_feed_26 : decode cX8_feed 26 = .ok (.invokestatic 53, 3) := by decide +kernel
theorem dX8_feed_29 : decode cX8_feed 29 = .ok (.ifCond .ne 6, 3) := by decide +kernel
theorem dX8_feed_32 : decode cX8_feed 32 = .ok (.bipush (-102), 2) := by decide +kernel
theorem dX8_feed_34 : decode cX8_feed 34 = .ok (.ireturn, 1) := by decide +kernel
theorem dX8_feed_35 : decode cX8_feed 35 = .ok (.aload_n 0, 1) := by decide +kernel
theorem dX8_feed_36 : decode cX8_feed 36 = .ok (.getfield 41, 3) := by decide +kernel
theorem dX8_feed_39 : decode cX8_feed 39 = .ok (.iload_n 1, 1) := by decide +kernel
theorem dX8_feed_40 : decode cX8_feed 40 = .ok (.aaload, 1) := by decide +kernel
theorem dX8_feed_41 : decode cX8_feed 41 = .ok (.astore 4, 2) := by decide +kernel
theorem dX8_feed_43 : decode cX8_feed 43 = .ok (.aload 4, 2) := by decide +kernel
theorem dX8_feed_45 : decode cX8_feed 45 = .ok (.getfield 104, 3) := by decide +kernel
theorem dX8_feed_48 : decode cX8_feed 48 = .ok (.iconst 2, 1) := by decide +kernel
theorem dX8_feed_49 : decode cX8_feed 49 = .ok (.if_icmp .eq 6, 3) := by decide +kernel
theorem dX8_feed_52 : decode cX8_feed 52 = .ok (.bipush (-103), 2) := by decide +kernel
theorem dX8_feed_54 : decode cX8_feed 54 = .ok (.ireturn, 1) := by decide +kernel
theorem dX8_feed_55 : decode cX8_feed 55 = .ok (.aload 4, 2) := by decide +kernel
theorem dX8_feed_57 : decode cX8_feed 57 = .ok (.iload_n 2, 1) := by decide +kernel
theorem dX8_feed_58 : decode cX8_feed 58 = .ok (.iload_n 3, 1) := by decide +kernel
theorem dX8_feed_59 : decode cX8_feed 59 = .ok (.invokevirtual 143, 3) := by decide +kernel
theorem dX8_feed_62 : decode cX8_feed 62 = .ok (.ifCond .eq 11, 3) := by decide +kernel
theorem dX8_feed_65 : decode cX8_feed 65 = .ok (.aload 4, 2) := by decide +kernel
theorem dX8_feed_67 : decode cX8_feed 67 = .ok (.getfield 137, 3) := by decide +kernel
theorem dX8_feed_70 : decode cX8_feed 70 = .ok (.goto 5, 3) := by decide +kernel
theorem dX8_feed_73 : decode cX8_feed 73 = .ok (.bipush (-104), 2) := by decide +kernel
theorem dX8_feed_75 : decode cX8_feed 75 = .ok (.ireturn, 1) := by decide +kernel
abbrev rm_X8_feed : Room := { frames := 3, cells := 0, slots := 0, locals := 63 }
def P_X8_feed (i1 : Int32) (i2 : Int32) (i3 : Int32) (h : HP) (Q : Int32 → HP → Prop) : Prop := P_X8_isClassOfAir i1 h (fun (v_2 : Int32) (h_2 : HP) => ((¬ v_2 = 0) → (P_X8_within i2 1 999 h_2 (fun (v_16 : Int32) (h_16 : HP) => ((v_16 = 0) → (Q (-102) h_16)) ∧ ((¬ v_16 = 0) → (P_X8_within i3 1 20 h_16 (fun (v_26 : Int32) (h_26 : HP) => ((¬ v_26 = 0) → ((vp_in i1 4) ∧ ((((h_26.1 (34 + 11 * i1.toNatClampNeg) 1) = 2) → (P_X3_enqueue (34 + 11 * i1.toNatClampNeg) i2 i3 h_26 (fun (v_59 : Int32) (h_59 : HP) => ((v_59 = 0) → (Q (-104) h_59)) ∧ ((¬ v_59 = 0) → (Q (h_59.1 (34 + 11 * i1.toNatClampNeg) 6) h_59))))) ∧ ((¬ (h_26.1 (34 + 11 * i1.toNatClampNeg) 1) = 2) → (Q (-103) h_26))))) ∧ ((v_26 = 0) → (Q (-102) h_26)))))))) ∧ ((v_2 = 0) → (Q (-101) h_2)))
set_option maxHeartbeats 4000000 in
theorem t_X8_feed {i1 : Int32} {i2 : Int32} {i3 : Int32} {h : HP} {Q : Int32 → HP → Prop}  (hp : P_X8_feed i1 i2 i3 h Q) : MT yX8_feed cX8_feed 5 (some .int) rm_X8_feed [.ref 0, .int i1, .int i2, .int i3] gC SH (emb h) (pI Q) := by
  refine MT.of (by decide +kernel) (Nat.le_of_ble_eq_true rfl) (fun C hC hE => ?_)
  show SW C gC 0 [(0, .ref 0), (1, .int i1), (2, .int i2), (3, .int i3)] [] h
  unfold P_X8_feed at hp
  refine x_aload_n hC dX8_feed_0 (lm 0 rfl) ?_
  refine x_iload_n hC dX8_feed_1 (lm 1 rfl) ?_
  refine s_callVi (avs := [.int i1]) (st := []) hC dX8_feed_2 ml_8_131 mi_X8_isClassOfAir ty_0 rfl (t_X8_isClassOfAir  hp) (Nat.le_of_ble_eq_true rfl) ⟨rfl, rfl⟩ ⟨Nat.le_of_ble_eq_true rfl, Nat.le_of_ble_eq_true rfl⟩ (fun v_2 h_2 hp => ?_)
  refine x_if_ne (tgt := 11) hC dX8_feed_5 (by decide) (fun hc => ?_) (fun hc => ?_)
  · have hp := hp.1 hc
    refine x_iload_n hC dX8_feed_11 (lm 2 rfl) ?_
    refine x_iconst hC dX8_feed_12 ic_1 ?_
    refine x_sipush hC dX8_feed_13 sp_999 ?_
    refine s_callSi (avs := [.int i2, .int 1, .int 999]) (st := []) hC dX8_feed_16 ml_8_53 ms_X8_within rfl (t_X8_within  hp) (Nat.le_of_ble_eq_true rfl) ⟨rfl, rfl⟩ ⟨Nat.le_of_ble_eq_true rfl, Nat.le_of_ble_eq_true rfl⟩ (fun v_16 h_16 hp => ?_)
    refine x_if_eq (tgt := 32) hC dX8_feed_19 (by decide) (fun hc => ?_) (fun hc => ?_)
    · have hp := hp.1 hc
      refine x_bipush hC dX8_feed_32 bp_m102 ?_
      exact x_iret hC hE dX8_feed_34 ⟨_, _, rfl, rfl, hp⟩
    · have hp := hp.2 hc
      refine x_iload_n hC dX8_feed_22 (lm 3 rfl) ?_
      refine x_iconst hC dX8_feed_23 ic_1 ?_
      refine x_bipush hC dX8_feed_24 bp_20 ?_
      refine s_callSi (avs := [.int i3, .int 1, .int 20]) (st := []) hC dX8_feed_26 ml_8_53 ms_X8_within rfl (t_X8_within  hp) (Nat.le_of_ble_eq_true rfl) ⟨rfl, rfl⟩ ⟨Nat.le_of_ble_eq_true rfl, Nat.le_of_ble_eq_true rfl⟩ (fun v_26 h_26 hp => ?_)
      refine x_if_ne (tgt := 35) hC dX8_feed_29 (by decide) (fun hc => ?_) (fun hc => ?_)
      · have hp := hp.1 hc
        refine x_aload_n hC dX8_feed_35 (lm 0 rfl) ?_
        refine s_getR (r := 32) hC dX8_feed_36 fk_8_41 ty_0 (fr_8_4 ty_0).1 ?_
        refine x_iload_n hC dX8_feed_39 (lm 1 rfl) ?_
        obtain ⟨ho_40, hp⟩ := hp
        refine s_aald (r := 34 + 11 * i1.toNatClampNeg) (ci := 3) hC dX8_feed_40 (by decide) (by decide) ((fr_8_4 ty_0).2) ho_40 (el_32 ho_40).1 ?_
        refine x_astore (lv' := [(4, .ref (34 + 11 * i1.toNatClampNeg)), (0, .ref 0), (1, .int i1), (2, .int i2), (3, .int i3)]) hC dX8_feed_41 (by decide) rfl ?_
        refine x_aload hC dX8_feed_43 (lm 0 rfl) ?_
        refine s_getI hC dX8_feed_45 fk_8_104 ((el_32 ho_40).2) ?_
        refine x_iconst hC dX8_feed_48 ic_2 ?_
        refine x_icmp_eq (tgt := 55) hC dX8_feed_49 (by decide) (fun hc => ?_) (fun hc => ?_)
        · have hp := hp.1 hc
          refine x_aload hC dX8_feed_55 (lm 0 rfl) ?_
          refine x_iload_n hC dX8_feed_57 (lm 3 rfl) ?_
          refine x_iload_n hC dX8_feed_58 (lm 4 rfl) ?_
          refine s_callVi (avs := [.int i2, .int i3]) (st := []) hC dX8_feed_59 ml_8_143 mi_X3_enqueue ((el_32 ho_40).2) rfl (t_X3_enqueue ((el_32 ho_40).2) hp) (Nat.le_of_ble_eq_true rfl) ⟨rfl, rfl⟩ ⟨Nat.le_of_ble_eq_true rfl, Nat.le_of_ble_eq_true rfl⟩ (fun v_59 h_59 hp => ?_)
          refine x_if_eq (tgt := 73) hC dX8_feed_62 (by decide) (fun hc => ?_) (fun hc => ?_)
          · have hp := hp.1 hc
            refine x_bipush hC dX8_feed_73 bp_m104 ?_
            exact x_iret hC hE dX8_feed_75 ⟨_, _, rfl, rfl, hp⟩
          · have hp := hp.2 hc
            refine x_aload hC dX8_feed_65 (lm 0 rfl) ?_
            refine s_getI hC dX8_feed_67 fk_8_137 ((el_32 ho_40).2) ?_
            refine x_goto (tgt := 75) hC dX8_feed_70 (by decide) ?_
            exact x_iret hC hE dX8_feed_75 ⟨_, _, rfl, rfl, hp⟩
        · have hp := hp.2 hc
          refine x_bipush hC dX8_feed_52 bp_m103 ?_
          exact x_iret hC hE dX8_feed_54 ⟨_, _, rfl, rfl, hp⟩
      · have hp := hp.2 hc
        refine x_bipush hC dX8_feed_32 bp_m102 ?_
        exact x_iret hC hE dX8_feed_34 ⟨_, _, rfl, rfl, hp⟩
  · have hp := hp.2 hc
    refine x_bipush hC dX8_feed_8 bp_m101 ?_
    exact x_iret hC hE dX8_feed_10 ⟨_, _, rfl, rfl, hp⟩
theorem dX8_bundle_0 : decode cX8_bundle 0 = .ok (.aload_n 0, 1) := by decide +kernel
theorem dX8_bundle_1 : decode cX8_bundle 1 = .ok (.iload_n 1, 1) := by decide +kernel
theorem dX8_bundle_2 : decode cX8_bundle 2 = .ok (.invokevirtual 131, 3) := by decide +kernel
theorem dX8_bundle_5 : decode cX8_bundle 5 = .ok (.ifCond .ne 6, 3) := by decide +kernel
theorem dX8_bundle_8 : decode cX8_bundle 8 = .ok (.bipush (-101), 2) := by decide +kernel
theorem dX8_bundle_10 : decode cX8_bundle 10 = .ok (.ireturn, 1) := by decide +kernel
theorem dX8_bundle_11 : decode cX8_bundle 11 = .ok (.aload_n 0, 1) := by decide +kernel
theorem dX8_bundle_12 : decode cX8_bundle 12 = .ok (.getfield 41, 3) := by decide +kernel
theorem dX8_bundle_15 : decode cX8_bundle 15 = .ok (.iload_n 1, 1) := by decide +kernel
theorem dX8_bundle_16 : decode cX8_bundle 16 = .ok (.aaload, 1) := by decide +kernel
theorem dX8_bundle_17 : decode cX8_bundle 17 = .ok (.astore_n 2, 1) := by decide +kernel
theorem dX8_bundle_18 : decode cX8_bundle 18 = .ok (.aload_n 2, 1) := by decide +kernel
theorem dX8_bundle_19 : decode cX8_bundle 19 = .ok (.getfield 104, 3) := by decide +kernel
theorem dX8_bundle_22 : decode cX8_bundle 22 = .ok (.iconst 2, 1) := by decide +kernel
theorem dX8_bundle_23 : decode cX8_bundle 23 = .ok (.if_icmp .ne 20, 3) := by decide +kernel
theorem dX8_bundle_26 : decode cX8_bundle 26 = .ok (.aload_n 2, 1) := by decide +kernel
theorem dX8_bundle_27 : decode cX8_bundle 27 = .ok (.getfield 134, 3) := by decide +kernel
theorem dX8_bundle_30 : decode cX8_bundle 30 = .ok (.ifCond .ne 13, 3) := by decide +kernel
theorem dX8_bundle_33 : decode cX8_bundle 33 = .ok (.aload_n 0, 1) := by decide +kernel
theorem dX8_bundle_34 : decode cX8_bundle 34 = .ok (.getfield 19, 3) := by decide +kernel
theorem dX8_bundle_37 : decode cX8_bundle 37 = .ok (.invokevirtual 147, 3) := by decide +kernel
theorem dX8_bundle_40 : decode cX8_bundle 40 = .ok (.ifCond .ne 6, 3) := by decide +kernel
theorem dX8_bundle_43 : decode cX8_bundle 43 = .ok (.bipush (-103), 2) := by decide +kernel
theorem dX8_bundle_45 : decode cX8_bundle 45 = .ok (.ireturn, 1) := by decide +kernel
theorem dX8_bundle_46 : decode cX8_bundle 46 = .ok (.aload_n 2, 1) := by decide +kernel
theorem dX8_bundle_47 : decode cX8_bundle 47 = .ok (.getfield 150, 3) := by decide +kernel
theorem dX8_bundle_50 : decode cX8_bundle 50 = .ok (.ifCond .eq 25, 3) := by decide +kernel
theorem dX8_bundle_53 : decode cX8_bundle 53 = .ok (.aload_n 0, 1) := by decide +kernel
theorem dX8_bundle_54 : decode cX8_bundle 54 = .ok (.getfield 35, 3) := by decide +kernel
theorem dX8_bundle_57 : decode cX8_bundle 57 = .ok (.iload_n 1, 1) := by decide +kernel
theorem dX8_bundle_58 : decode cX8_bundle 58 = .ok (.iconst 3, 1) := by decide +kernel
theorem dX8_bundle_59 : decode cX8_bundle 59 = .ok (.invokevirtual 115, 3) := by decide +kernel
theorem dX8_bundle_62 : decode cX8_bundle 62 = .ok (.aload_n 2, 1) := by decide +kernel
theorem dX8_bundle_63 : decode cX8_bundle 63 = .ok (.getfield 153, 3) := by decide +kernel
theorem dX8_bundle_66 : decode cX8_bundle 66 = .ok (.putfield 156, 3) := by decide +kernel
theorem dX8_bundle_69 : decode cX8_bundle 69 = .ok (.aload_n 2, 1) := by decide +kernel
theorem dX8_bundle_70 : decode cX8_bundle 70 = .ok (.invokevirtual 159, 3) := by decide +kernel
theorem dX8_bundle_73 : decode cX8_bundle 73 = .ok (.iconst 0, 1) := by decide +kernel
theorem dX8_bundle_74 : decode cX8_bundle 74 = .ok (.ireturn, 1) := by decide +kernel
theorem dX8_bundle_75 : decode cX8_bundle 75 = .ok (.aload_n 2, 1) := by decide +kernel
theorem dX8_bundle_76 : decode cX8_bundle 76 = .ok (.aload_n 0, 1) := by decide +kernel
theorem dX8_bundle_77 : decode cX8_bundle 77 = .ok (.getfield 19, 3) := by decide +kernel
theorem dX8_bundle_80 : decode cX8_bundle 80 = .ok (.getfield 162, 3) := by decide +kernel
theorem dX8_bundle_83 : decode cX8_bundle 83 = .ok (.aload_n 0, 1) := by decide +kernel
theorem dX8_bundle_84 : decode cX8_bundle 84 = .ok (.getfield 19, 3) := by decide +kernel
theorem dX8_bundle_87 : decode cX8_bundle 87 = .ok (.getfield 165, 3) := by decide +kernel
theorem dX8_bundle_90 : decode cX8_bundle 90 = .ok (.aload_n 0, 1) := by decide +kernel
theorem dX8_bundle_91 : decode cX8_bundle 91 = .ok (.getfield 19, 3) := by decide +kernel
theorem dX8_bundle_94 : decode cX8_bundle 94 = .ok (.invokevirtual 168, 3) := by decide +kernel
theorem dX8_bundle_97 : decode cX8_bundle 97 = .ok (.imul, 1) := by decide +kernel
theorem dX8_bundle_98 : decode cX8_bundle 98 = .ok (.invokevirtual 171, 3) := by decide +kernel
theorem dX8_bundle_101 : decode cX8_bundle 101 = .ok (.istore_n 3, 1) := by decide +kernel
theorem dX8_bundle_102 : decode cX8_bundle 102 = .ok (.iload_n 3, 1) := by decide +kernel
theorem dX8_bundle_103 : decode cX8_bundle 103 = .ok (.ifCond .ne 6, 3) := by decide +kernel
theorem dX8_bundle_106 : decode cX8_bundle 106 = .ok (.bipush (-103), 2) := by decide +kernel
theorem dX8_bundle_108 : decode cX8_bundle 108 = .ok (.ireturn, 1) := by decide +kernel
theorem dX8_bundle_109 : decode cX8_bundle 109 = .ok (.aload_n 2, 1) := by decide +kernel
theorem dX8_bundle_110 : decode cX8_bundle 110 = .ok (.aload_n 0, 1) := by decide +kernel
theorem dX8_bundle_111 : decode cX8_bundle 111 = .ok (.getfield 35, 3) := by decide +kernel
theorem dX8_bundle_114 : decode cX8_bundle 114 = .ok (.iload_n 1, 1) := by decide +kernel
theorem dX8_bundle_115 : decode cX8_bundle 115 = .ok (.iconst 2, 1) := by decide +kernel
theorem dX8_bundle_116 : decode cX8_bundle 116 = .ok (.invokevirtual 115, 3) := by decide +kernel
theorem dX8_bundle_119 : decode cX8_bundle 119 = .ok (.iload_n 3, 1) := by decide +kernel
theorem dX8_bundle_120 : decode cX8_bundle 120 = .ok (.invokevirtual 175, 3) := by decide +kernel
theorem dX8_bundle_123 : decode cX8_bundle 123 = .ok (.aload_n 0, 1) := by decide +kernel
theorem dX8_bundle_124 : decode cX8_bundle 124 = .ok (.getfield 26, 3) := by decide +kernel
theorem dX8_bundle_127 : decode cX8_bundle 127 = .ok (.dup, 1) := by decide +kernel
theorem dX8_bundle_128 : decode cX8_bundle 128 = .ok (.getfield 179, 3) := by decide +kernel
theorem dX8_bundle_131 : decode cX8_bundle 131 = .ok (.iload_n 3, 1) := by decide +kernel
theorem dX8_bundle_132 : decode cX8_bundle 132 = .ok (.iadd, 1) := by decide +kernel
theorem dX8_bundle_133 : decode cX8_bundle 133 = .ok (.putfield 179, 3) := by decide +kernel
theorem dX8_bundle_136 : decode cX8_bundle 136 = .ok (.iload_n 3, 1) := by decide +kernel
theorem dX8_bundle_137 : decode cX8_bundle 137 = .ok (.ireturn, 1) := by decide +kernel
abbrev rm_X8_bundle : Room := { frames := 4, cells := 0, slots := 0, locals := 95 }
def P_X8_bundle (i1 : Int32) (h : HP) (Q : Int32 → HP → Prop) : Prop := P_X8_isClassOfAir i1 h (fun (v_2 : Int32) (h_2 : HP) => ((¬ v_2 = 0) → ((vp_in i1 4) ∧ (((¬ (h_2.1 (34 + 11 * i1.toNatClampNeg) 1) = 2) → (Q (-103) h_2)) ∧ (((h_2.1 (34 + 11 * i1.toNatClampNeg) 1) = 2) → (((¬ (h_2.1 (34 + 11 * i1.toNatClampNeg) 8) = 0) → (Q (-103) h_2)) ∧ (((h_2.1 (34 + 11 * i1.toNatClampNeg) 8) = 0) → (P_X0_isAwake h_2 (fun (v_37 : Int32) (h_37 : HP) => ((¬ v_37 = 0) → ((((h_37.1 (34 + 11 * i1.toNatClampNeg) 9) = 0) → (P_X0_left h_37 (fun (v_94 : Int32) (h_94 : HP) => P_X3_bundleSize (34 + 11 * i1.toNatClampNeg) (h_37.1 3 4) ((h_37.1 3 3) * v_94) h_94 (fun (v_98 : Int32) (h_98 : HP) => ((¬ v_98 = 0) → (P_X6_send i1 2 h_98 (fun (v_116 : Nat) (h_116 : HP) => (Ty gC v_116 2 0) ∧ (P_X3_bundleGoes (34 + 11 * i1.toNatClampNeg) v_116 v_98 h_116 (fun (h_120 : HP) => Q v_98 (si h_120 4 2 ((h_120.1 4 2) + v_98))))))) ∧ ((v_98 = 0) → (Q (-103) h_98)))))) ∧ ((¬ (h_37.1 (34 + 11 * i1.toNatClampNeg) 9) = 0) → (P_X6_send i1 3 h_37 (fun (v_59 : Nat) (h_59 : HP) => (Ty gC v_59 2 0) ∧ (P_X3_barGoes (34 + 11 * i1.toNatClampNeg) (si h_59 v_59 5 (h_59.1 (34 + 11 * i1.toNatClampNeg) 4)) (fun (h_70 : HP) => Q 0 h_70))))))) ∧ ((v_37 = 0) → (Q (-103) h_37)))))))))) ∧ ((v_2 = 0) → (Q (-101) h_2)))
set_option maxHeartbeats 4000000 in
theorem t_X8_bundle {i1 : Int32} {h : HP} {Q : Int32 → HP → Prop}  (hp : P_X8_bundle i1 h Q) : MT yX8_bundle cX8_bundle 4 (some .int) rm_X8_bundle [.ref 0, .int i1] gC SH (emb h) (pI Q) := by
  refine MT.of (by decide +kernel) (Nat.le_of_ble_eq_true rfl) (fun C hC hE => ?_)
  show SW C gC 0 [(0, .ref 0), (1, .int i1)] [] h
  unfold P_X8_bundle at hp
  refine x_aload_n hC dX8_bundle_0 (lm 0 rfl) ?_
  refine x_iload_n hC dX8_bundle_1 (lm 1 rfl) ?_
  refine s_callVi (avs := [.int i1]) (st := []) hC dX8_bundle_2 ml_8_131 mi_X8_isClassOfAir ty_0 rfl (t_X8_isClassOfAir  hp) (Nat.le_of_ble_eq_true rfl) ⟨rfl, rfl⟩ ⟨Nat.le_of_ble_eq_true rfl, Nat.le_of_ble_eq_true rfl⟩ (fun v_2 h_2 hp => ?_)
  refine x_if_ne (tgt := 11) hC dX8_bundle_5 (by decide) (fun hc => ?_) (fun hc => ?_)
  · have hp := hp.1 hc
    refine x_aload_n hC dX8_bundle_11 (lm 0 rfl) ?_
    refine s_getR (r := 32) hC dX8_bundle_12 fk_8_41 ty_0 (fr_8_4 ty_0).1 ?_
    refine x_iload_n hC dX8_bundle_15 (lm 1 rfl) ?_
    obtain ⟨ho_16, hp⟩ := hp
    refine s_aald (r := 34 + 11 * i1.toNatClampNeg) (ci := 3) hC dX8_bundle_16 (by decide) (by decide) ((fr_8_4 ty_0).2) ho_16 (el_32 ho_16).1 ?_
    refine x_astore_n (lv' := [(2, .ref (34 + 11 * i1.toNatClampNeg)), (0, .ref 0), (1, .int i1)]) hC dX8_bundle_17 (by decide) rfl ?_
    refine x_aload_n hC dX8_bundle_18 (lm 0 rfl) ?_
    refine s_getI hC dX8_bundle_19 fk_8_104 ((el_32 ho_16).2) ?_
    refine x_iconst hC dX8_bundle_22 ic_2 ?_
    refine x_icmp_ne (tgt := 43) hC dX8_bundle_23 (by decide) (fun hc => ?_) (fun hc => ?_)
    · have hp := hp.1 hc
      refine x_bipush hC dX8_bundle_43 bp_m103 ?_
      exact x_iret hC hE dX8_bundle_45 ⟨_, _, rfl, rfl, hp⟩
    · have hp := hp.2 hc
      refine x_aload_n hC dX8_bundle_26 (lm 0 rfl) ?_
      refine s_getZ hC dX8_bundle_27 fk_8_134 ((el_32 ho_16).2) ?_
      refine x_if_ne (tgt := 43) hC dX8_bundle_30 (by decide) (fun hc => ?_) (fun hc => ?_)
      · have hp := hp.1 hc
        refine x_bipush hC dX8_bundle_43 bp_m103 ?_
        exact x_iret hC hE dX8_bundle_45 ⟨_, _, rfl, rfl, hp⟩
      · have hp := hp.2 hc
        refine x_aload_n hC dX8_bundle_33 (lm 1 rfl) ?_
        refine s_getR (r := 3) hC dX8_bundle_34 fk_8_19 ty_0 (fr_8_1 ty_0).1 ?_
        refine s_callVi (avs := []) (st := []) hC dX8_bundle_37 ml_8_147 mi_X0_isAwake ty_3 rfl (t_X0_isAwake  hp) (Nat.le_of_ble_eq_true rfl) ⟨rfl, rfl⟩ ⟨Nat.le_of_ble_eq_true rfl, Nat.le_of_ble_eq_true rfl⟩ (fun v_37 h_37 hp => ?_)
        refine x_if_ne (tgt := 46) hC dX8_bundle_40 (by decide) (fun hc => ?_) (fun hc => ?_)
        · have hp := hp.1 hc
          refine x_aload_n hC dX8_bundle_46 (lm 0 rfl) ?_
          refine s_getZ hC dX8_bundle_47 fk_8_150 ((el_32 ho_16).2) ?_
          refine x_if_eq (tgt := 75) hC dX8_bundle_50 (by decide) (fun hc => ?_) (fun hc => ?_)
          · have hp := hp.1 hc
            refine x_aload_n hC dX8_bundle_75 (lm 0 rfl) ?_
            refine x_aload_n hC dX8_bundle_76 (lm 1 rfl) ?_
            refine s_getR (r := 3) hC dX8_bundle_77 fk_8_19 ty_0 (fr_8_1 ty_0).1 ?_
            refine s_getI hC dX8_bundle_80 fk_8_162 ty_3 ?_
            refine x_aload_n hC dX8_bundle_83 (lm 1 rfl) ?_
            refine s_getR (r := 3) hC dX8_bundle_84 fk_8_19 ty_0 (fr_8_1 ty_0).1 ?_
            refine s_getI hC dX8_bundle_87 fk_8_165 ty_3 ?_
            refine x_aload_n hC dX8_bundle_90 (lm 1 rfl) ?_
            refine s_getR (r := 3) hC dX8_bundle_91 fk_8_19 ty_0 (fr_8_1 ty_0).1 ?_
            refine s_callVi (avs := []) (st := [.int (h_37.1 3 3), .int (h_37.1 3 4), .ref (34 + 11 * i1.toNatClampNeg)]) hC dX8_bundle_94 ml_8_168 mi_X0_left ty_3 rfl (t_X0_left  hp) (Nat.le_of_ble_eq_true rfl) ⟨rfl, rfl⟩ ⟨Nat.le_of_ble_eq_true rfl, Nat.le_of_ble_eq_true rfl⟩ (fun v_94 h_94 hp => ?_)
            refine x_imul hC dX8_bundle_97 ?_
            refine s_callVi (avs := [.int (h_37.1 3 4), .int ((h_37.1 3 3) * v_94)]) (st := []) hC dX8_bundle_98 ml_8_171 mi_X3_bundleSize ((el_32 ho_16).2) rfl (t_X3_bundleSize ((el_32 ho_16).2) hp) (Nat.le_of_ble_eq_true rfl) ⟨rfl, rfl⟩ ⟨Nat.le_of_ble_eq_true rfl, Nat.le_of_ble_eq_true rfl⟩ (fun v_98 h_98 hp => ?_)
            refine x_istore_n (lv' := [(3, .int v_98), (2, .ref (34 + 11 * i1.toNatClampNeg)), (0, .ref 0), (1, .int i1)]) hC dX8_bundle_101 (by decide) rfl ?_
            refine x_iload_n hC dX8_bundle_102 (lm 0 rfl) ?_
            refine x_if_ne (tgt := 109) hC dX8_bundle_103 (by decide) (fun hc => ?_) (fun hc => ?_)
            · have hp := hp.1 hc
              refine x_aload_n hC dX8_bundle_109 (lm 1 rfl) ?_
              refine x_aload_n hC dX8_bundle_110 (lm 2 rfl) ?_
              refine s_getR (r := 5) hC dX8_bundle_111 fk_8_35 ty_0 (fr_8_3 ty_0).1 ?_
              refine x_iload_n hC dX8_bundle_114 (lm 3 rfl) ?_
              refine x_iconst hC dX8_bundle_115 ic_2 ?_
              refine s_callVr (avs := [.int i1, .int 2]) (st := [.ref (34 + 11 * i1.toNatClampNeg)]) hC dX8_bundle_116 ml_8_115 mi_X6_send ty_5 rfl (t_X6_send  hp) (Nat.le_of_ble_eq_true rfl) ⟨rfl, rfl⟩ ⟨Nat.le_of_ble_eq_true rfl, Nat.le_of_ble_eq_true rfl⟩ (fun v_116 h_116 hp => ?_)
              obtain ⟨ht_116, hp⟩ := hp
              refine x_iload_n hC dX8_bundle_119 (lm 0 rfl) ?_
              refine s_callVv (avs := [.ref v_116, .int v_98]) (st := []) hC dX8_bundle_120 ml_8_175 mi_X3_bundleGoes ((el_32 ho_16).2) rfl (t_X3_bundleGoes ((el_32 ho_16).2) ht_116 hp) (Nat.le_of_ble_eq_true rfl) ⟨rfl, rfl⟩ ⟨Nat.le_of_ble_eq_true rfl, Nat.le_of_ble_eq_true rfl⟩ (fun h_120 hp => ?_)
              refine x_aload_n hC dX8_bundle_123 (lm 2 rfl) ?_
              refine s_getR (r := 4) hC dX8_bundle_124 fk_8_26 ty_0 (fr_8_2 ty_0).1 ?_
              refine x_dup hC dX8_bundle_127 rfl ?_
              refine s_getI hC dX8_bundle_128 fk_8_179 ty_4 ?_
              refine x_iload_n hC dX8_bundle_131 (lm 0 rfl) ?_
              refine x_iadd hC dX8_bundle_132 ?_
              refine s_putI hC dX8_bundle_133 fk_8_179 rfl rfl ty_4 ?_
              refine x_iload_n hC dX8_bundle_136 (lm 0 rfl) ?_
              exact x_iret hC hE dX8_bundle_137 ⟨_, _, rfl, rfl, hp⟩
            · have hp := hp.2 hc
              refine x_bipush hC dX8_bundle_106 bp_m103 ?_
              exact x_iret hC hE dX8_bundle_108 ⟨_, _, rfl, rfl, hp⟩
          · have hp := hp.2 hc
            refine x_aload_n hC dX8_bundle_53 (lm 1 rfl) ?_
            refine s_getR (r := 5) hC dX8_bundle_54 fk_8_35 ty_0 (fr_8_3 ty_0).1 ?_
            refine x_iload_n hC dX8_bundle_57 (lm 2 rfl) ?_
            refine x_iconst hC dX8_bundle_58 ic_3 ?_
            refine s_callVr (avs := [.int i1, .int 3]) (st := []) hC dX8_bundle_59 ml_8_115 mi_X6_send ty_5 rfl (t_X6_send  hp) (Nat.le_of_ble_eq_true rfl) ⟨rfl, rfl⟩ ⟨Nat.le_of_ble_eq_true rfl, Nat.le_of_ble_eq_true rfl⟩ (fun v_59 h_59 hp => ?_)
            obtain ⟨ht_59, hp⟩ := hp
            refine x_aload_n hC dX8_bundle_62 (lm 0 rfl) ?_
            refine s_getI hC dX8_bundle_63 fk_8_153 ((el_32 ho_16).2) ?_
            refine s_putI hC dX8_bundle_66 fk_8_156 rfl rfl ht_59 ?_
            refine x_aload_n hC dX8_bundle_69 (lm 0 rfl) ?_
            refine s_callVv (avs := []) (st := []) hC dX8_bundle_70 ml_8_159 mi_X3_barGoes ((el_32 ho_16).2) rfl (t_X3_barGoes ((el_32 ho_16).2) hp) (Nat.le_of_ble_eq_true rfl) ⟨rfl, rfl⟩ ⟨Nat.le_of_ble_eq_true rfl, Nat.le_of_ble_eq_true rfl⟩ (fun h_70 hp => ?_)
            refine x_iconst hC dX8_bundle_73 ic_0 ?_
            exact x_iret hC hE dX8_bundle_74 ⟨_, _, rfl, rfl, hp⟩
        · have hp := hp.2 hc
          refine x_bipush hC dX8_bundle_43 bp_m103 ?_
          exact x_iret hC hE dX8_bundle_45 ⟨_, _, rfl, rfl, hp⟩
  · have hp := hp.2 hc
    refine x_bipush hC dX8_bundle_8 bp_m101 ?_
    exact x_iret hC hE dX8_bundle_10 ⟨_, _, rfl, rfl, hp⟩
theorem dX8_expire_0 : decode cX8_expire 0 = .ok (.aload_n 0, 1) := by decide +kernel
theorem dX8_expire_1 : decode cX8_expire 1 = .ok (.iload_n 1, 1) := by decide +kernel
theorem dX8_expire_2 : decode cX8_expire 2 = .ok (.invokevirtual 131, 3) := by decide +kernel
theorem dX8_expire_5 : decode cX8_expire 5 = .ok (.ifCond .ne 6, 3) := by decide +kernel
theorem dX8_expire_8 : decode cX8_expire 8 = .ok (.bipush (-101), 2) := by decide +kernel
theorem dX8_expire_10 : decode cX8_expire 10 = .ok (.ireturn, 1) := by decide +kernel
theorem dX8_expire_11 : decode cX8_expire 11 = .ok (.aload_n 0, 1) := by decide +kernel
theorem dX8_expire_12 : decode cX8_expire 12 = .ok (.getfield 41, 3) := by decide +kernel
theorem dX8_expire_15 : decode cX8_expire 15 = .ok (.iload_n 1, 1) := by decide +kernel
theorem dX8_expire_16 : decode cX8_expire 16 = .ok (.aaload, 1) := by decide +kernel
theorem dX8_expire_17 : decode cX8_expire 17 = .ok (.astore_n 2, 1) := by decide +kernel
theorem dX8_expire_18 : decode cX8_expire 18 = .ok (.aload_n 2, 1) := by decide +kernel
theorem dX8_expire_19 : decode cX8_expire 19 = .ok (.getfield 104, 3) := by decide +kernel
theorem dX8_expire_22 : decode cX8_expire 22 = .ok (.iconst 1, 1) := by decide +kernel
theorem dX8_expire_23 : decode cX8_expire 23 = .ok (.if_icmp .eq 13, 3) := by decide +kernel
theorem dX8_expire_26 : decode cX8_expire 26 = .ok (.aload_n 2, 1) := by decide +kernel
theorem dX8_expire_27 : decode cX8_expire 27 = .ok (.getfield 134, 3) := by decide +kernel
theorem dX8_expire_30 : decode cX8_expire 30 = .ok (.ifCond .ne 6, 3) := by decide +kernel
theorem dX8_expire_33 : decode cX8_expire 33 = .ok (.bipush (-103), 2) := by decide +kernel
theorem dX8_expire_35 : decode cX8_expire 35 = .ok (.ireturn, 1) := by decide +kernel
theorem dX8_expire_36 : decode cX8_expire 36 = .ok (.aload_n 0, 1) := by decide +kernel
theorem dX8_expire_37 : decode cX8_expire 37 = .ok (.getfield 35, 3) := by decide +kernel
theorem dX8_expire_40 : decode cX8_expire 40 = .ok (.iload_n 1, 1) := by decide +kernel
theorem dX8_expire_41 : decode cX8_expire 41 = .ok (.invokevirtual 182, 3) := by decide +kernel
theorem dX8_expire_44 : decode cX8_expire 44 = .ok (.istore_n 3, 1) := by decide +kernel
theorem dX8_expire_45 : decode cX8_expire 45 = .ok (.aload_n 2, 1) := by decide +kernel
theorem dX8_expire_46 : decode cX8_expire 46 = .ok (.getfield 104, 3) := by decide +kernel
theorem dX8_expire_49 : decode cX8_expire 49 = .ok (.iconst 1, 1) := by decide +kernel
theorem dX8_expire_50 : decode cX8_expire 50 = .ok (.if_icmp .ne 10, 3) := by decide +kernel
theorem dX8_expire_53 : decode cX8_expire 53 = .ok (.aload_n 2, 1) := by decide +kernel
theorem dX8_expire_54 : decode cX8_expire 54 = .ok (.invokevirtual 87, 3) := by decide +kernel
theorem dX8_expire_57 : decode cX8_expire 57 = .ok (.goto 7, 3) := by decide +kernel
theorem dX8_expire_60 : decode cX8_expire 60 = .ok (.aload_n 2, 1) := by decide +kernel
theorem dX8_expire_61 : decode cX8_expire 61 = .ok (.invokevirtual 185, 3) := by decide +kernel
theorem dX8_expire_64 : decode cX8_expire 64 = .ok (.iload_n 3, 1) := by decide +kernel
theorem dX8_expire_65 : decode cX8_expire 65 = .ok (.ireturn, 1) := by decide +kernel
abbrev rm_X8_expire : Room := { frames := 5, cells := 0, slots := 0, locals := 110 }
def P_X8_expire_j36 (_q0 : Nat) (i1 : Int32) (q2 : Nat) (h : HP)  (Q : Int32 → HP → Prop) : Prop := P_X6_loseAllOf i1 h (fun (v_41 : Int32) (h_41 : HP) => ((¬ (h_41.1 q2 1) = 1) → (P_X3_waitNoLonger q2 h_41 (fun (h_61 : HP) => Q v_41 h_61))) ∧ (((h_41.1 q2 1) = 1) → (P_X3_vanish q2 h_41 (fun (h_54 : HP) => Q v_41 h_54))))
def P_X8_expire (i1 : Int32) (h : HP) (Q : Int32 → HP → Prop) : Prop := P_X8_isClassOfAir i1 h (fun (v_2 : Int32) (h_2 : HP) => ((¬ v_2 = 0) → ((vp_in i1 4) ∧ ((((h_2.1 (34 + 11 * i1.toNatClampNeg) 1) = 1) → (P_X8_expire_j36 0 i1 (34 + 11 * i1.toNatClampNeg) h_2 Q)) ∧ ((¬ (h_2.1 (34 + 11 * i1.toNatClampNeg) 1) = 1) → (((¬ (h_2.1 (34 + 11 * i1.toNatClampNeg) 8) = 0) → (P_X8_expire_j36 0 i1 (34 + 11 * i1.toNatClampNeg) h_2 Q)) ∧ (((h_2.1 (34 + 11 * i1.toNatClampNeg) 8) = 0) → (Q (-103) h_2))))))) ∧ ((v_2 = 0) → (Q (-101) h_2)))
set_option maxHeartbeats 4000000 in
theorem l_X8_expire_j36 {i1 : Int32} {q2 : Nat} {h : HP}  {Q : Int32 → HP → Prop} {C : Cx} (hC : xOk C cX8_expire yX8_expire.cls 4 rm_X8_expire (some .int)) (hE : xEnd C gC SH (pI Q)) (hq2 : Ty gC q2 3 0)  (hp : P_X8_expire_j36 0 i1 q2 h  Q) : SW C gC 36 [(0, .ref 0), (1, .int i1), (2, .ref q2)] [] h := by
  unfold P_X8_expire_j36 at hp
  refine x_aload_n hC dX8_expire_36 (lm 0 rfl) ?_
  refine s_getR (r := 5) hC dX8_expire_37 fk_8_35 ty_0 (fr_8_3 ty_0).1 ?_
  refine x_iload_n hC dX8_expire_40 (lm 1 rfl) ?_
  refine s_callVi (avs := [.int i1]) (st := []) hC dX8_expire_41 ml_8_182 mi_X6_loseAllOf ty_5 rfl (t_X6_loseAllOf  hp) (Nat.le_of_ble_eq_true rfl) ⟨rfl, rfl⟩ ⟨Nat.le_of_ble_eq_true rfl, Nat.le_of_ble_eq_true rfl⟩ (fun v_41 h_41 hp => ?_)
  refine x_istore_n (lv' := [(3, .int v_41), (0, .ref 0), (1, .int i1), (2, .ref q2)]) hC dX8_expire_44 (by decide) rfl ?_
  refine x_aload_n hC dX8_expire_45 (lm 3 rfl) ?_
  refine s_getI hC dX8_expire_46 fk_8_104 hq2 ?_
  refine x_iconst hC dX8_expire_49 ic_1 ?_
  refine x_icmp_ne (tgt := 60) hC dX8_expire_50 (by decide) (fun hc => ?_) (fun hc => ?_)
  · have hp := hp.1 hc
    refine x_aload_n hC dX8_expire_60 (lm 3 rfl) ?_
    refine s_callVv (avs := []) (st := []) hC dX8_expire_61 ml_8_185 mi_X3_waitNoLonger hq2 rfl (t_X3_waitNoLonger hq2 hp) (Nat.le_of_ble_eq_true rfl) ⟨rfl, rfl⟩ ⟨Nat.le_of_ble_eq_true rfl, Nat.le_of_ble_eq_true rfl⟩ (fun h_61 hp => ?_)
    refine x_iload_n hC dX8_expire_64 (lm 0 rfl) ?_
    exact x_iret hC hE dX8_expire_65 ⟨_, _, rfl, rfl, hp⟩
  · have hp := hp.2 hc
    refine x_aload_n hC dX8_expire_53 (lm 3 rfl) ?_
    refine s_callVv (avs := []) (st := []) hC dX8_expire_54 ml_8_87 mi_X3_vanish hq2 rfl (t_X3_vanish hq2 hp) (Nat.le_of_ble_eq_true rfl) ⟨rfl, rfl⟩ ⟨Nat.le_of_ble_eq_true rfl, Nat.le_of_ble_eq_true rfl⟩ (fun h_54 hp => ?_)
    refine x_goto (tgt := 64) hC dX8_expire_57 (by decide) ?_
    refine x_iload_n hC dX8_expire_64 (lm 0 rfl) ?_
    exact x_iret hC hE dX8_expire_65 ⟨_, _, rfl, rfl, hp⟩
set_option maxHeartbeats 4000000 in
theorem t_X8_expire {i1 : Int32} {h : HP} {Q : Int32 → HP → Prop}  (hp : P_X8_expire i1 h Q) : MT yX8_expire cX8_expire 4 (some .int) rm_X8_expire [.ref 0, .int i1] gC SH (emb h) (pI Q) := by
  refine MT.of (by decide +kernel) (Nat.le_of_ble_eq_true rfl) (fun C hC hE => ?_)
  show SW C gC 0 [(0, .ref 0), (1, .int i1)] [] h
  unfold P_X8_expire at hp
  refine x_aload_n hC dX8_expire_0 (lm 0 rfl) ?_
  refine x_iload_n hC dX8_expire_1 (lm 1 rfl) ?_
  refine s_callVi (avs := [.int i1]) (st := []) hC dX8_expire_2 ml_8_131 mi_X8_isClassOfAir ty_0 rfl (t_X8_isClassOfAir  hp) (Nat.le_of_ble_eq_true rfl) ⟨rfl, rfl⟩ ⟨Nat.le_of_ble_eq_true rfl, Nat.le_of_ble_eq_true rfl⟩ (fun v_2 h_2 hp => ?_)
  refine x_if_ne (tgt := 11) hC dX8_expire_5 (by decide) (fun hc => ?_) (fun hc => ?_)
  · have hp := hp.1 hc
    refine x_aload_n hC dX8_expire_11 (lm 0 rfl) ?_
    refine s_getR (r := 32) hC dX8_expire_12 fk_8_41 ty_0 (fr_8_4 ty_0).1 ?_
    refine x_iload_n hC dX8_expire_15 (lm 1 rfl) ?_
    obtain ⟨ho_16, hp⟩ := hp
    refine s_aald (r := 34 + 11 * i1.toNatClampNeg) (ci := 3) hC dX8_expire_16 (by decide) (by decide) ((fr_8_4 ty_0).2) ho_16 (el_32 ho_16).1 ?_
    refine x_astore_n (lv' := [(2, .ref (34 + 11 * i1.toNatClampNeg)), (0, .ref 0), (1, .int i1)]) hC dX8_expire_17 (by decide) rfl ?_
    refine x_aload_n hC dX8_expire_18 (lm 0 rfl) ?_
    refine s_getI hC dX8_expire_19 fk_8_104 ((el_32 ho_16).2) ?_
    refine x_iconst hC dX8_expire_22 ic_1 ?_
    refine x_icmp_eq (tgt := 36) hC dX8_expire_23 (by decide) (fun hc => ?_) (fun hc => ?_)
    · have hp := hp.1 hc
      exact x_subk [1, 2, 0] rfl (l_X8_expire_j36 hC hE ((el_32 ho_16).2)  hp)
    · have hp := hp.2 hc
      refine x_aload_n hC dX8_expire_26 (lm 0 rfl) ?_
      refine s_getZ hC dX8_expire_27 fk_8_134 ((el_32 ho_16).2) ?_
      refine x_if_ne (tgt := 36) hC dX8_expire_30 (by decide) (fun hc => ?_) (fun hc => ?_)
      · have hp := hp.1 hc
        exact x_subk [1, 2, 0] rfl (l_X8_expire_j36 hC hE ((el_32 ho_16).2)  hp)
      · have hp := hp.2 hc
        refine x_bipush hC dX8_expire_33 bp_m103 ?_
        exact x_iret hC hE dX8_expire_35 ⟨_, _, rfl, rfl, hp⟩
  · have hp := hp.2 hc
    refine x_bipush hC dX8_expire_8 bp_m101 ?_
    exact x_iret hC hE dX8_expire_10 ⟨_, _, rfl, rfl, hp⟩
theorem dX8_answer_0 : decode cX8_answer 0 = .ok (.aload_n 0, 1) := by decide +kernel
theorem dX8_answer_1 : decode cX8_answer 1 = .ok (.getfield 47, 3) := by decide +kernel
theorem dX8_answer_4 : decode cX8_answer 4 = .ok (.iload_n 1, 1) := by decide +kernel
theorem dX8_answer_5 : decode cX8_answer 5 = .ok (.aaload, 1) := by decide +kernel
theorem dX8_answer_6 : decode cX8_answer 6 = .ok (.astore_n 2, 1) := by decide +kernel
theorem dX8_answer_7 : decode cX8_answer 7 = .ok (.aload_n 2, 1) := by decide +kernel
theorem dX8_answer_8 : decode cX8_answer 8 = .ok (.getfield 233, 3) := by decide +kernel
theorem dX8_answer_11 : decode cX8_answer 11 = .ok (.ifCond .eq 29, 3) := by decide +kernel
theorem dX8_answer_14 : decode cX8_answer 14 = .ok (.aload_n 0, 1) := by decide +kernel
theorem dX8_answer_15 : decode cX8_answer 15 = .ok (.getfield 35, 3) := by decide +kernel
theorem dX8_answer_18 : decode cX8_answer 18 = .ok (.iload_n 1, 1) := by decide +kernel
theorem dX8_answer_19 : decode cX8_answer 19 = .ok (.iconst 4, 1) := by decide +kernel
theorem dX8_answer_20 : decode cX8_answer 20 = .ok (.invokevirtual 115, 3) := by decide +kernel
theorem dX8_answer_23 : decode cX8_answer 23 = .ok (.astore_n 3, 1) := by decide +kernel
theorem dX8_answer_24 : decode cX8_answer 24 = .ok (.aload_n 3, 1) := by decide +kernel
theorem dX8_answer_25 : decode cX8_answer 25 = .ok (.aload_n 2, 1) := by decide +kernel
theorem dX8_answer_26 : decode cX8_answer 26 = .ok (.getfield 350, 3) := by decide +kernel
theorem dX8_answer_29 : decode cX8_answer 29 = .ok (.putfield 156, 3) := by decide +kernel
theorem dX8_answer_32 : decode cX8_answer 32 = .ok (.aload_n 3, 1) := by decide +kernel
theorem dX8_answer_33 : decode cX8_answer 33 = .ok (.aload_n 2, 1) := by decide +kernel
theorem dX8_answer_34 : decode cX8_answer 34 = .ok (.getfield 353, 3) := by decide +kernel
theorem dX8_answer_37 : decode cX8_answer 37 = .ok (.putfield 341, 3) := by decide +kernel
theorem dX8_answer_40 : decode cX8_answer 40 = .ok (.return_, 1) := by decide +kernel
abbrev rm_X8_answer : Room := { frames := 2, cells := 0, slots := 0, locals := 45 }
def P_X8_answer (i1 : Int32) (h : HP) (Q : HP → Prop) : Prop := (vp_in i1 4) ∧ ((((h.1 (41 + 11 * i1.toNatClampNeg) 2) = 0) → Q h) ∧ ((¬ (h.1 (41 + 11 * i1.toNatClampNeg) 2) = 0) → (P_X6_send i1 4 h (fun (v_20 : Nat) (h_20 : HP) => (Ty gC v_20 2 0) ∧ (Q (si (si h_20 v_20 5 (h_20.1 (41 + 11 * i1.toNatClampNeg) 7)) v_20 6 ((si h_20 v_20 5 (h_20.1 (41 + 11 * i1.toNatClampNeg) 7)).1 (41 + 11 * i1.toNatClampNeg) 8)))))))
set_option maxHeartbeats 4000000 in
theorem t_X8_answer {i1 : Int32} {h : HP} {Q : HP → Prop}  (hp : P_X8_answer i1 h Q) : MT yX8_answer cX8_answer 4 none rm_X8_answer [.ref 0, .int i1] gC SH (emb h) (pV Q) := by
  refine MT.of (by decide +kernel) (Nat.le_of_ble_eq_true rfl) (fun C hC hE => ?_)
  show SW C gC 0 [(0, .ref 0), (1, .int i1)] [] h
  unfold P_X8_answer at hp
  refine x_aload_n hC dX8_answer_0 (lm 0 rfl) ?_
  refine s_getR (r := 33) hC dX8_answer_1 fk_8_47 ty_0 (fr_8_5 ty_0).1 ?_
  refine x_iload_n hC dX8_answer_4 (lm 1 rfl) ?_
  obtain ⟨ho_5, hp⟩ := hp
  refine s_aald (r := 41 + 11 * i1.toNatClampNeg) (ci := 1) hC dX8_answer_5 (by decide) (by decide) ((fr_8_5 ty_0).2) ho_5 (el_33 ho_5).1 ?_
  refine x_astore_n (lv' := [(2, .ref (41 + 11 * i1.toNatClampNeg)), (0, .ref 0), (1, .int i1)]) hC dX8_answer_6 (by decide) rfl ?_
  refine x_aload_n hC dX8_answer_7 (lm 0 rfl) ?_
  refine s_getZ hC dX8_answer_8 fk_8_233 ((el_33 ho_5).2) ?_
  refine x_if_eq (tgt := 40) hC dX8_answer_11 (by decide) (fun hc => ?_) (fun hc => ?_)
  · have hp := hp.1 hc
    exact x_vret hC hE dX8_answer_40 ⟨_, rfl, rfl, hp⟩
  · have hp := hp.2 hc
    refine x_aload_n hC dX8_answer_14 (lm 1 rfl) ?_
    refine s_getR (r := 5) hC dX8_answer_15 fk_8_35 ty_0 (fr_8_3 ty_0).1 ?_
    refine x_iload_n hC dX8_answer_18 (lm 2 rfl) ?_
    refine x_iconst hC dX8_answer_19 ic_4 ?_
    refine s_callVr (avs := [.int i1, .int 4]) (st := []) hC dX8_answer_20 ml_8_115 mi_X6_send ty_5 rfl (t_X6_send  hp) (Nat.le_of_ble_eq_true rfl) ⟨rfl, rfl⟩ ⟨Nat.le_of_ble_eq_true rfl, Nat.le_of_ble_eq_true rfl⟩ (fun v_20 h_20 hp => ?_)
    obtain ⟨ht_20, hp⟩ := hp
    refine x_astore_n (lv' := [(3, .ref v_20), (2, .ref (41 + 11 * i1.toNatClampNeg)), (0, .ref 0), (1, .int i1)]) hC dX8_answer_23 (by decide) rfl ?_
    refine x_aload_n hC dX8_answer_24 (lm 0 rfl) ?_
    refine x_aload_n hC dX8_answer_25 (lm 1 rfl) ?_
    refine s_getI hC dX8_answer_26 fk_8_350 ((el_33 ho_5).2) ?_
    refine s_putI hC dX8_answer_29 fk_8_156 rfl rfl ht_20 ?_
    refine x_aload_n hC dX8_answer_32 (lm 0 rfl) ?_
    refine x_aload_n hC dX8_answer_33 (lm 1 rfl) ?_
    refine s_getI hC dX8_answer_34 fk_8_353 ((el_33 ho_5).2) ?_
    refine s_putI hC dX8_answer_37 fk_8_341 rfl rfl ht_20 ?_
    exact x_vret hC hE dX8_answer_40 ⟨_, rfl, rfl, hp⟩
theorem dX8_bundleArrives_0 : decode cX8_bundleArrives 0 = .ok (.aload_n 0, 1) := by decide +kernel
theorem dX8_bundleArrives_1 : decode cX8_bundleArrives 1 = .ok (.getfield 47, 3) := by decide +kernel
theorem dX8_bundleArrives_4 : decode cX8_bundleArrives 4 = .ok (.aload_n 1, 1) := by decide +kernel
theorem dX8_bundleArrives_5 : decode cX8_bundleArrives 5 = .ok (.getfield 298, 3) := by decide +kernel
theorem dX8_bundleArrives_8 : decode cX8_bundleArrives 8 = .ok (.aaload, 1) := by decide +kernel
theorem dX8_bundleArrives_9 : decode cX8_bundleArrives 9 = .ok (.astore_n 3, 1) := by decide +kernel
theorem dX8_bundleArrives_10 : decode cX8_bundleArrives 10 = .ok (.iconst 0, 1) := by decide +kernel
theorem dX8_bundleArrives_11 : decode cX8_bundleArrives 11 = .ok (.istore 4, 2) := by decide +kernel
theorem dX8_bundleArrives_13 : decode cX8_bundleArrives 13 = .ok (.iconst 0, 1) := by decide +kernel
theorem dX8_bundleArrives_14 : decode cX8_bundleArrives 14 = .ok (.istore 5, 2) := by decide +kernel
theorem dX8_bundleArrives_16 : decode cX8_bundleArrives 16 = .ok (.iload 5, 2) := by decide +kernel
theorem dX8_bundleArrives_18 : decode cX8_bundleArrives 18 = .ok (.bipush 8, 2) := by decide +kernel
theorem dX8_bundleArrives_20 : decode cX8_bundleArrives 20 = .ok (.if_icmp .ge 83, 3) := by decide +kernel
theorem dX8_bundleArrives_23 : decode cX8_bundleArrives 23 = .ok (.aload_n 1, 1) := by decide +kernel
theorem dX8_bundleArrives_24 : decode cX8_bundleArrives 24 = .ok (.iload 5, 2) := by decide +kernel
theorem dX8_bundleArrives_26 : decode cX8_bundleArrives 26 = .ok (.invokevirtual 253, 3) := by decide +kernel
theorem dX8_bundleArrives_29 : decode cX8_bundleArrives 29 = .ok (.ifCond .eq 74, 3) := by decide +kernel
theorem dX8_bundleArrives_32 : decode cX8_bundleArrives 32 = .ok (.aload_n 1, 1) := by decide +kernel
theorem dX8_bundleArrives_33 : decode cX8_bundleArrives 33 = .ok (.getfield 301, 3) := by decide +kernel
theorem dX8_bundleArrives_36 : decode cX8_bundleArrives 36 = .ok (.iload 5, 2) := by decide +kernel
theorem dX8_bundleArrives_38 : decode cX8_bundleArrives 38 = .ok (.iaload, 1) := by decide +kernel
theorem dX8_bundleArrives_39 : decode cX8_bundleArrives 39 = .ok (.iload_n 2, 1) := by decide +kernel
theorem dX8_bundleArrives_40 : decode cX8_bundleArrives 40 = .ok (.iload 5, 2) := by decide +kernel
theorem dX8_bundleArrives_42 : decode cX8_bundleArrives 42 = .ok (.ishr, 1) := by decide +kernel
theorem dX8_bundleArrives_43 : decode cX8_bundleArrives 43 = .ok (.iconst 1, 1) := by decide +kernel
theorem dX8_bundleArrives_44 : decode cX8_bundleArrives 44 = .ok (.iand, 1) := by decide +kernel
theorem dX8_bundleArrives_45 : decode cX8_bundleArrives 45 = .ok (.ixor, 1) := by decide +kernel
theorem dX8_bundleArrives_46 : decode cX8_bundleArrives 46 = .ok (.istore 6, 2) := by decide +kernel
theorem dX8_bundleArrives_48 : decode cX8_bundleArrives 48 = .ok (.aload_n 1, 1) := by decide +kernel
theorem dX8_bundleArrives_49 : decode cX8_bundleArrives 49 = .ok (.getfield 298, 3) := by decide +kernel
theorem dX8_bundleArrives_52 : decode cX8_bundleArrives 52 = .ok (.aload_n 1, 1) := by decide +kernel
theorem dX8_bundleArrives_53 : decode cX8_bundleArrives 53 = .ok (.getfield 305, 3) := by decide +kernel
theorem dX8_bundleArrives_56 : decode cX8_bundleArrives 56 = .ok (.iload 5, 2) := by decide +kernel
theorem dX8_bundleArrives_58 : decode cX8_bundleArrives 58 = .ok (.iaload, 1) := by decide +kernel
theorem dX8_bundleArrives_59 : decode cX8_bundleArrives 59 = .ok (.iload 6, 2) := by decide +kernel
theorem dX8_bundleArrives_61 : decode cX8_bundleArrives 61 = .ok (.aload_n 1, 1) := by decide +kernel
theorem dX8_bundleArrives_62 : decode cX8_bundleArrives 62 = .ok (.getfield 308, 3) := by decide +kernel
theorem dX8_bundleArrives_65 : decode cX8_bundleArrives 65 = .ok (.iload 5, 2) := by decide +kernel
theorem dX8_bundleArrives_67 : decode cX8_bundleArrives 67 = .ok (.iaload, 1) := by decide +kernel
theorem dX8_bundleArrives_68 : decode cX8_bundleArrives 68 = .ok (.invokestatic 311, 3) := by decide +kernel
theorem dX8_bundleArrives_71 : decode cX8_bundleArrives 71 = .ok (.aload_n 1, 1) := by decide +kernel
theorem dX8_bundleArrives_72 : decode cX8_bundleArrives 72 = .ok (.getfield 315, 3) := by decide +kernel
theorem dX8_bundleArrives_75 : decode cX8_bundleArrives 75 = .ok (.iload 5, 2) := by decide +kernel
theorem dX8_bundleArrives_77 : decode cX8_bundleArrives 77 = .ok (.iaload, 1) := by decide +kernel
theorem dX8_bundleArrives_78 : decode cX8_bundleArrives 78 = .ok (.if_icmp .ne 19, 3) := by decide +kernel
theorem dX8_bundleArrives_81 : decode cX8_bundleArrives 81 = .ok (.iinc 4 1, 3) := by decide +kernel
theorem dX8_bundleArrives_84 : decode cX8_bundleArrives 84 = .ok (.aload_n 3, 1) := by decide +kernel
theorem dX8_bundleArrives_85 : decode cX8_bundleArrives 85 = .ok (.aload_n 1, 1) := by decide +kernel
theorem dX8_bundleArrives_86 : decode cX8_bundleArrives 86 = .ok (.getfield 305, 3) := by decide +kernel
theorem dX8_bundleArrives_89 : decode cX8_bundleArrives 89 = .ok (.iload 5, 2) := by decide +kernel
theorem dX8_bundleArrives_91 : decode cX8_bundleArrives 91 = .ok (.iaload, 1) := by decide +kernel
theorem dX8_bundleArrives_92 : decode cX8_bundleArrives 92 = .ok (.iload 6, 2) := by decide +kernel
theorem dX8_bundleArrives_94 : decode cX8_bundleArrives 94 = .ok (.invokevirtual 318, 3) := by decide +kernel
theorem dX8_bundleArrives_97 : decode cX8_bundleArrives 97 = .ok (.iinc 5 1, 3) := by decide +kernel
theorem dX8_bundleArrives_100 : decode cX8_bundleArrives 100 = .ok (.goto (-84), 3) := by decide +kernel
theorem dX8_bundleArrives_103 : decode cX8_bundleArrives 103 = .ok (.aload_n 0, 1) := by decide +kernel
theorem dX8_bundleArrives_104 : decode cX8_bundleArrives 104 = .ok (.getfield 26, 3) := by decide +kernel
theorem dX8_bundleArrives_107 : decode cX8_bundleArrives 107 = .ok (.dup, 1) := by decide +kernel
theorem dX8_bundleArrives_108 : decode cX8_bundleArrives 108 = .ok (.getfield 262, 3) := by decide +kernel
theorem dX8_bundleArrives_111 : decode cX8_bundleArrives 111 = .ok (.iload 4, 2) := by decide +kernel
theorem dX8_bundleArrives_113 : decode cX8_bundleArrives 113 = .ok (.iadd, 1) := by decide +kernel
theorem dX8_bundleArrives_114 : decode cX8_bundleArrives 114 = .ok (.putfield 262, 3) := by decide +kernel
theorem dX8_bundleArrives_117 : decode cX8_bundleArrives 117 = .ok (.iload 4, 2) := by decide +kernel
theorem dX8_bundleArrives_119 : decode cX8_bundleArrives 119 = .ok (.ifCond .le 11, 3) := by decide +kernel
theorem dX8_bundleArrives_122 : decode cX8_bundleArrives 122 = .ok (.aload_n 0, 1) := by decide +kernel
theorem dX8_bundleArrives_123 : decode cX8_bundleArrives 123 = .ok (.aload_n 1, 1) := by decide +kernel
theorem dX8_bundleArrives_124 : decode cX8_bundleArrives 124 = .ok (.getfield 298, 3) := by decide +kernel
theorem dX8_bundleArrives_127 : decode cX8_bundleArrives 127 = .ok (.invokevirtual 322, 3) := by decide +kernel
theorem dX8_bundleArrives_130 : decode cX8_bundleArrives 130 = .ok (.iload 4, 2) := by decide +kernel
theorem dX8_bundleArrives_132 : decode cX8_bundleArrives 132 = .ok (.ireturn, 1) := by decide +kernel
abbrev rm_X8_bundleArrives : Room := { frames := 5, cells := 0, slots := 0, locals := 109 }
def P_X8_bundleArrives_j103 (_q0 : Nat) (q1 : Nat) (i4 : Int32) (h : HP)  (Q : Int32 → HP → Prop) : Prop := ((i4 ≤ 0) → (Q i4 (si h 4 3 ((h.1 4 3) + i4)))) ∧ ((¬ i4 ≤ 0) → (P_X8_answer ((si h 4 3 ((h.1 4 3) + i4)).1 q1 0) (si h 4 3 ((h.1 4 3) + i4)) (fun (h_127 : HP) => Q i4 h_127)))
def P_X8_bundleArrives (q1 : Nat) (i2 : Int32) (h : HP) (Q : Int32 → HP → Prop) : Prop := (vp_in (h.1 q1 0) 4) ∧ (Lp3 (fun X_16 (i4_16 : Int32) (i5_16 : Int32) (h_16 : HP) => ((8 ≤ i5_16) → P_X8_bundleArrives_j103 0 q1 i4_16 h_16 Q) ∧ ((¬ 8 ≤ i5_16) → (P_X2_hasFrame q1 i5_16 h_16 (fun (v_26 : Int32) (h_26 : HP) => ((v_26 = 0) → P_X8_bundleArrives_j103 0 q1 i4_16 h_26 Q) ∧ ((¬ v_26 = 0) → ((vp_in i5_16 8) ∧ ((vp_in i5_16 8) ∧ ((vp_in i5_16 8) ∧ (P_X8_checkOf (h_26.1 q1 0) (h_26.1 (q1 + 1) i5_16.toNatClampNeg) ((h_26.1 (q1 + 2) i5_16.toNatClampNeg) ^^^ ((i2 >>> (i5_16 &&& 31)) &&& 1)) (h_26.1 (q1 + 3) i5_16.toNatClampNeg) h_26 (fun (v_68 : Int32) (h_68 : HP) => (vp_in i5_16 8) ∧ (((¬ v_68 = (h_68.1 (q1 + 4) i5_16.toNatClampNeg)) → (X_16 i4_16 (i5_16 + 1) h_68)) ∧ ((v_68 = (h_68.1 (q1 + 4) i5_16.toNatClampNeg)) → ((vp_in i5_16 8) ∧ (P_X1_comes (41 + 11 * (h.1 q1 0).toNatClampNeg) (h_68.1 (q1 + 1) i5_16.toNatClampNeg) ((h_26.1 (q1 + 2) i5_16.toNatClampNeg) ^^^ ((i2 >>> (i5_16 &&& 31)) &&& 1)) h_68 (fun (h_94 : HP) => X_16 (i4_16 + 1) (i5_16 + 1) h_94))))))))))))))) 0 0 h)
set_option maxHeartbeats 4000000 in
theorem l_X8_bundleArrives_j103 {q1 : Nat} {i4 : Int32} {h : HP}  {Q : Int32 → HP → Prop} {C : Cx} (hC : xOk C cX8_bundleArrives yX8_bundleArrives.cls 7 rm_X8_bundleArrives (some .int)) (hE : xEnd C gC SH (pI Q)) (hq1 : Ty gC q1 2 0)  (hp : P_X8_bundleArrives_j103 0 q1 i4 h  Q) : SW C gC 103 [(0, .ref 0), (1, .ref q1), (4, .int i4)] [] h := by
  unfold P_X8_bundleArrives_j103 at hp
  refine x_aload_n hC dX8_bundleArrives_103 (lm 0 rfl) ?_
  refine s_getR (r := 4) hC dX8_bundleArrives_104 fk_8_26 ty_0 (fr_8_2 ty_0).1 ?_
  refine x_dup hC dX8_bundleArrives_107 rfl ?_
  refine s_getI hC dX8_bundleArrives_108 fk_8_262 ty_4 ?_
  refine x_iload hC dX8_bundleArrives_111 (lm 2 rfl) ?_
  refine x_iadd hC dX8_bundleArrives_113 ?_
  refine s_putI hC dX8_bundleArrives_114 fk_8_262 rfl rfl ty_4 ?_
  refine x_iload hC dX8_bundleArrives_117 (lm 2 rfl) ?_
  refine x_if_le (tgt := 130) hC dX8_bundleArrives_119 (by decide) (fun hc => ?_) (fun hc => ?_)
  · have hp := hp.1 hc
    refine x_iload hC dX8_bundleArrives_130 (lm 2 rfl) ?_
    exact x_iret hC hE dX8_bundleArrives_132 ⟨_, _, rfl, rfl, hp⟩
  · have hp := hp.2 hc
    refine x_aload_n hC dX8_bundleArrives_122 (lm 0 rfl) ?_
    refine x_aload_n hC dX8_bundleArrives_123 (lm 1 rfl) ?_
    refine s_getI hC dX8_bundleArrives_124 fk_8_298 hq1 ?_
    refine s_callVv (avs := [.int ((si h 4 3 ((h.1 4 3) + i4)).1 q1 0)]) (st := []) hC dX8_bundleArrives_127 ml_8_322 mi_X8_answer ty_0 rfl (t_X8_answer  hp) (Nat.le_of_ble_eq_true rfl) ⟨rfl, rfl⟩ ⟨Nat.le_of_ble_eq_true rfl, Nat.le_of_ble_eq_true rfl⟩ (fun h_127 hp => ?_)
    refine x_iload hC dX8_bundleArrives_130 (lm 2 rfl) ?_
    exact x_iret hC hE dX8_bundleArrives_132 ⟨_, _, rfl, rfl, hp⟩
set_option maxHeartbeats 4000000 in
theorem t_X8_bundleArrives {q1 : Nat} {i2 : Int32} {h : HP} {Q : Int32 → HP → Prop} (hq1 : Ty gC q1 2 0) (hp : P_X8_bundleArrives q1 i2 h Q) : MT yX8_bundleArrives cX8_bundleArrives 7 (some .int) rm_X8_bundleArrives [.ref 0, .ref q1, .int i2] gC SH (emb h) (pI Q) := by
  refine MT.of (by decide +kernel) (Nat.le_of_ble_eq_true rfl) (fun C hC hE => ?_)
  show SW C gC 0 [(0, .ref 0), (1, .ref q1), (2, .int i2)] [] h
  unfold P_X8_bundleArrives at hp
  refine x_aload_n hC dX8_bundleArrives_0 (lm 0 rfl) ?_
  refine s_getR (r := 33) hC dX8_bundleArrives_1 fk_8_47 ty_0 (fr_8_5 ty_0).1 ?_
  refine x_aload_n hC dX8_bundleArrives_4 (lm 1 rfl) ?_
  refine s_getI hC dX8_bundleArrives_5 fk_8_298 hq1 ?_
  obtain ⟨ho_8, hp⟩ := hp
  refine s_aald (r := 41 + 11 * (h.1 q1 0).toNatClampNeg) (ci := 1) hC dX8_bundleArrives_8 (by decide) (by decide) ((fr_8_5 ty_0).2) ho_8 (el_33 ho_8).1 ?_
  refine x_astore_n (lv' := [(3, .ref (41 + 11 * (h.1 q1 0).toNatClampNeg)), (0, .ref 0), (1, .ref q1), (2, .int i2)]) hC dX8_bundleArrives_9 (by decide) rfl ?_
  refine x_iconst hC dX8_bundleArrives_10 ic_0 ?_
  refine x_istore (lv' := [(4, .int 0), (3, .ref (41 + 11 * (h.1 q1 0).toNatClampNeg)), (0, .ref 0), (1, .ref q1), (2, .int i2)]) hC dX8_bundleArrives_11 (by decide) rfl ?_
  refine x_iconst hC dX8_bundleArrives_13 ic_0 ?_
  refine x_istore (lv' := [(5, .int 0), (4, .int 0), (3, .ref (41 + 11 * (h.1 q1 0).toNatClampNeg)), (0, .ref 0), (1, .ref q1), (2, .int i2)]) hC dX8_bundleArrives_14 (by decide) rfl ?_
  refine x_subk (lv' := [(0, .ref 0), (1, .ref q1), (2, .int i2), (3, .ref (41 + 11 * (h.1 q1 0).toNatClampNeg)), (4, .int 0), (5, .int 0)]) [3, 4, 5, 2, 1, 0] rfl ?_
  refine hp (fun i4_16 i5_16 h_16 => SW C gC 16 [(0, .ref 0), (1, .ref q1), (2, .int i2), (3, .ref (41 + 11 * (h.1 q1 0).toNatClampNeg)), (4, .int i4_16), (5, .int i5_16)] [] h_16) (fun i4_16 i5_16 h_16 hp => ?_)
  refine x_iload hC dX8_bundleArrives_16 (lm 5 rfl) ?_
  refine x_bipush hC dX8_bundleArrives_18 bp_8 ?_
  refine x_icmp_ge (tgt := 103) hC dX8_bundleArrives_20 (by decide) (fun hc => ?_) (fun hc => ?_)
  · have hp := hp.1 hc
    exact x_subk [0, 1, 4] rfl (l_X8_bundleArrives_j103 hC hE hq1  hp)
  · have hp := hp.2 hc
    refine x_aload_n hC dX8_bundleArrives_23 (lm 1 rfl) ?_
    refine x_iload hC dX8_bundleArrives_24 (lm 5 rfl) ?_
    refine s_callVi (avs := [.int i5_16]) (st := []) hC dX8_bundleArrives_26 ml_8_253 mi_X2_hasFrame hq1 rfl (t_X2_hasFrame hq1 hp) (Nat.le_of_ble_eq_true rfl) ⟨rfl, rfl⟩ ⟨Nat.le_of_ble_eq_true rfl, Nat.le_of_ble_eq_true rfl⟩ (fun v_26 h_26 hp => ?_)
    refine x_if_eq (tgt := 103) hC dX8_bundleArrives_29 (by decide) (fun hc => ?_) (fun hc => ?_)
    · have hp := hp.1 hc
      exact x_subk [0, 1, 4] rfl (l_X8_bundleArrives_j103 hC hE hq1  hp)
    · have hp := hp.2 hc
      refine x_aload_n hC dX8_bundleArrives_32 (lm 1 rfl) ?_
      refine s_getR (r := q1 + 2) hC dX8_bundleArrives_33 fk_8_301 hq1 (fr_2_9 hq1).1 ?_
      refine x_iload hC dX8_bundleArrives_36 (lm 5 rfl) ?_
      obtain ⟨ho, hp⟩ := hp
      refine s_iald hC dX8_bundleArrives_38 ((fr_2_9 hq1).2) ho ?_
      refine x_iload_n hC dX8_bundleArrives_39 (lm 2 rfl) ?_
      refine x_iload hC dX8_bundleArrives_40 (lm 5 rfl) ?_
      refine x_ishr hC dX8_bundleArrives_42 ?_
      refine x_iconst hC dX8_bundleArrives_43 ic_1 ?_
      refine x_iand hC dX8_bundleArrives_44 ?_
      refine x_ixor hC dX8_bundleArrives_45 ?_
      refine x_istore (lv' := [(6, .int ((h_26.1 (q1 + 2) i5_16.toNatClampNeg) ^^^ ((i2 >>> (i5_16 &&& 31)) &&& 1))), (0, .ref 0), (1, .ref q1), (2, .int i2), (3, .ref (41 + 11 * (h.1 q1 0).toNatClampNeg)), (4, .int i4_16), (5, .int i5_16)]) hC dX8_bundleArrives_46 (by decide) rfl ?_
      refine x_aload_n hC dX8_bundleArrives_48 (lm 2 rfl) ?_
      refine s_getI hC dX8_bundleArrives_49 fk_8_298 hq1 ?_
      refine x_aload_n hC dX8_bundleArrives_52 (lm 2 rfl) ?_
      refine s_getR (r := q1 + 1) hC dX8_bundleArrives_53 fk_8_305 hq1 (fr_2_8 hq1).1 ?_
      refine x_iload hC dX8_bundleArrives_56 (lm 6 rfl) ?_
      obtain ⟨ho, hp⟩ := hp
      refine s_iald hC dX8_bundleArrives_58 ((fr_2_8 hq1).2) ho ?_
      refine x_iload hC dX8_bundleArrives_59 (lm 0 rfl) ?_
      refine x_aload_n hC dX8_bundleArrives_61 (lm 2 rfl) ?_
      refine s_getR (r := q1 + 3) hC dX8_bundleArrives_62 fk_8_308 hq1 (fr_2_10 hq1).1 ?_
      refine x_iload hC dX8_bundleArrives_65 (lm 6 rfl) ?_
      obtain ⟨ho, hp⟩ := hp
      refine s_iald hC dX8_bundleArrives_67 ((fr_2_10 hq1).2) ho ?_
      refine s_callSi (avs := [.int (h_26.1 q1 0), .int (h_26.1 (q1 + 1) i5_16.toNatClampNeg), .int ((h_26.1 (q1 + 2) i5_16.toNatClampNeg) ^^^ ((i2 >>> (i5_16 &&& 31)) &&& 1)), .int (h_26.1 (q1 + 3) i5_16.toNatClampNeg)]) (st := []) hC dX8_bundleArrives_68 ml_8_311 ms_X8_checkOf rfl (t_X8_checkOf  hp) (Nat.le_of_ble_eq_true rfl) ⟨rfl, rfl⟩ ⟨Nat.le_of_ble_eq_true rfl, Nat.le_of_ble_eq_true rfl⟩ (fun v_68 h_68 hp => ?_)
      refine x_aload_n hC dX8_bundleArrives_71 (lm 2 rfl) ?_
      refine s_getR (r := q1 + 4) hC dX8_bundleArrives_72 fk_8_315 hq1 (fr_2_11 hq1).1 ?_
      refine x_iload hC dX8_bundleArrives_75 (lm 6 rfl) ?_
      obtain ⟨ho, hp⟩ := hp
      refine s_iald hC dX8_bundleArrives_77 ((fr_2_11 hq1).2) ho ?_
      refine x_icmp_ne (tgt := 97) hC dX8_bundleArrives_78 (by decide) (fun hc => ?_) (fun hc => ?_)
      · have hp := hp.1 hc
        refine x_iinc (u := i5_16 + 1) (lv' := [(5, .int (i5_16 + 1)), (6, .int ((h_26.1 (q1 + 2) i5_16.toNatClampNeg) ^^^ ((i2 >>> (i5_16 &&& 31)) &&& 1))), (0, .ref 0), (1, .ref q1), (2, .int i2), (3, .ref (41 + 11 * (h.1 q1 0).toNatClampNeg)), (4, .int i4_16)]) hC dX8_bundleArrives_97 (lm 6 rfl) (congrArg _ ic_1) (by decide) rfl ?_
        refine x_goto (tgt := 16) hC dX8_bundleArrives_100 (by decide) ?_
        exact x_subk [2, 3, 4, 5, 6, 0] rfl hp
      · have hp := hp.2 hc
        refine x_iinc (u := i4_16 + 1) (lv' := [(4, .int (i4_16 + 1)), (6, .int ((h_26.1 (q1 + 2) i5_16.toNatClampNeg) ^^^ ((i2 >>> (i5_16 &&& 31)) &&& 1))), (0, .ref 0), (1, .ref q1), (2, .int i2), (3, .ref (41 + 11 * (h.1 q1 0).toNatClampNeg)), (5, .int i5_16)]) hC dX8_bundleArrives_81 (lm 5 rfl) (congrArg _ ic_1) (by decide) rfl ?_
        refine x_aload_n hC dX8_bundleArrives_84 (lm 5 rfl) ?_
        refine x_aload_n hC dX8_bundleArrives_85 (lm 3 rfl) ?_
        refine s_getR (r := q1 + 1) hC dX8_bundleArrives_86 fk_8_305 hq1 (fr_2_8 hq1).1 ?_
        refine x_iload hC dX8_bundleArrives_89 (lm 6 rfl) ?_
        obtain ⟨ho, hp⟩ := hp
        refine s_iald hC dX8_bundleArrives_91 ((fr_2_8 hq1).2) ho ?_
        refine x_iload hC dX8_bundleArrives_92 (lm 1 rfl) ?_
        refine s_callVv (avs := [.int (h_68.1 (q1 + 1) i5_16.toNatClampNeg), .int ((h_26.1 (q1 + 2) i5_16.toNatClampNeg) ^^^ ((i2 >>> (i5_16 &&& 31)) &&& 1))]) (st := []) hC dX8_bundleArrives_94 ml_8_318 mi_X1_comes ((el_33 ho_8).2) rfl (t_X1_comes ((el_33 ho_8).2) hp) (Nat.le_of_ble_eq_true rfl) ⟨rfl, rfl⟩ ⟨Nat.le_of_ble_eq_true rfl, Nat.le_of_ble_eq_true rfl⟩ (fun h_94 hp => ?_)
        refine x_iinc (u := i5_16 + 1) (lv' := [(5, .int (i5_16 + 1)), (4, .int (i4_16 + 1)), (6, .int ((h_26.1 (q1 + 2) i5_16.toNatClampNeg) ^^^ ((i2 >>> (i5_16 &&& 31)) &&& 1))), (0, .ref 0), (1, .ref q1), (2, .int i2), (3, .ref (41 + 11 * (h.1 q1 0).toNatClampNeg))]) hC dX8_bundleArrives_97 (lm 6 rfl) (congrArg _ ic_1) (by decide) rfl ?_
        refine x_goto (tgt := 16) hC dX8_bundleArrives_100 (by decide) ?_
        exact x_subk [3, 4, 5, 6, 1, 0] rfl hp
theorem dX8_arrives_0 : decode cX8_arrives 0 = .ok (.aload_n 1, 1) := by decide +kernel
theorem dX8_arrives_1 : decode cX8_arrives 1 = .ok (.getfield 298, 3) := by decide +kernel
theorem dX8_arrives_4 : decode cX8_arrives 4 = .ok (.istore_n 2, 1) := by decide +kernel
theorem dX8_arrives_5 : decode cX8_arrives 5 = .ok (.aload_n 1, 1) := by decide +kernel
theorem dX8_arrives_6 : decode cX8_arrives 6 = .ok (.getfield 198, 3) := by decide +kernel
theorem dX8_arrives_9 : decode cX8_arrives 9 = .ok (.tableswitch 142 0 4 #[35, 85, 142, 101, 122], 35) := by decide +kernel
theorem dX8_arrives_44 : decode cX8_arrives 44 = .ok (.aload_n 0, 1) := by decide +kernel
theorem dX8_arrives_45 : decode cX8_arrives 45 = .ok (.getfield 47, 3) := by decide +kernel
theorem dX8_arrives_48 : decode cX8_arrives 48 = .ok (.iload_n 2, 1) := by decide +kernel
theorem dX8_arrives_49 : decode cX8_arrives 49 = .ok (.aaload, 1) := by decide +kernel
theorem dX8_arrives_50 : decode cX8_arrives 50 = .ok (.aload_n 1, 1) := by decide +kernel
theorem dX8_arrives_51 : decode cX8_arrives 51 = .ok (.getfield 119, 3) := by decide +kernel
theorem dX8_arrives_54 : decode cX8_arrives 54 = .ok (.aload_n 1, 1) := by decide +kernel
theorem dX8_arrives_55 : decode cX8_arrives 55 = .ok (.getfield 124, 3) := by decide +kernel
theorem dX8_arrives_58 : decode cX8_arrives 58 = .ok (.bipush 12, 2) := by decide +kernel
theorem dX8_arrives_60 : decode cX8_arrives 60 = .ok (.invokestatic 325, 3) := by decide +kernel
theorem dX8_arrives_63 : decode cX8_arrives 63 = .ok (.aload_n 1, 1) := by decide +kernel
theorem dX8_arrives_64 : decode cX8_arrives 64 = .ok (.getfield 127, 3) := by decide +kernel
theorem dX8_arrives_67 : decode cX8_arrives 67 = .ok (.invokevirtual 330, 3) := by decide +kernel
theorem dX8_arrives_70 : decode cX8_arrives 70 = .ok (.aload_n 0, 1) := by decide +kernel
theorem dX8_arrives_71 : decode cX8_arrives 71 = .ok (.getfield 35, 3) := by decide +kernel
theorem dX8_arrives_74 : decode cX8_arrives 74 = .ok (.iload_n 2, 1) := by decide +kernel
theorem dX8_arrives_75 : decode cX8_arrives 75 = .ok (.iconst 1, 1) := by decide +kernel
theorem dX8_arrives_76 : decode cX8_arrives 76 = .ok (.invokevirtual 115, 3) := by decide +kernel
theorem dX8_arrives_79 : decode cX8_arrives 79 = .ok (.aload_n 0, 1) := by decide +kernel
theorem dX8_arrives_80 : decode cX8_arrives 80 = .ok (.getfield 47, 3) := by decide +kernel
theorem dX8_arrives_83 : decode cX8_arrives 83 = .ok (.iload_n 2, 1) := by decide +kernel
theorem dX8_arrives_84 : decode cX8_arrives 84 = .ok (.aaload, 1) := by decide +kernel
theorem dX8_arrives_85 : decode cX8_arrives 85 = .ok (.getfield 334, 3) := by decide +kernel
theorem dX8_arrives_88 : decode cX8_arrives 88 = .ok (.putfield 124, 3) := by decide +kernel
theorem dX8_arrives_91 : decode cX8_arrives 91 = .ok (.goto 69, 3) := by decide +kernel
theorem dX8_arrives_94 : decode cX8_arrives 94 = .ok (.aload_n 0, 1) := by decide +kernel
theorem dX8_arrives_95 : decode cX8_arrives 95 = .ok (.getfield 41, 3) := by decide +kernel
theorem dX8_arrives_98 : decode cX8_arrives 98 = .ok (.iload_n 2, 1) := by decide +kernel
theorem dX8_arrives_99 : decode cX8_arrives 99 = .ok (.aaload, 1) := by decide +kernel
theorem dX8_arrives_100 : decode cX8_arrives 100 = .ok (.aload_n 1, 1) := by decide +kernel
theorem dX8_arrives_101 : decode cX8_arrives 101 = .ok (.getfield 124, 3) := by decide +kernel
theorem dX8_arrives_104 : decode cX8_arrives 104 = .ok (.invokevirtual 335, 3) := by decide +kernel
theorem dX8_arrives_107 : decode cX8_arrives 107 = .ok (.goto 53, 3) := by decide +kernel
theorem dX8_arrives_110 : decode cX8_arrives 110 = .ok (.aload_n 0, 1) := by decide +kernel
theorem dX8_arrives_111 : decode cX8_arrives 111 = .ok (.getfield 47, 3) := by decide +kernel
theorem dX8_arrives_114 : decode cX8_arrives 114 = .ok (.iload_n 2, 1) := by decide +kernel
theorem dX8_arrives_115 : decode cX8_arrives 115 = .ok (.aaload, 1) := by decide +kernel
theorem dX8_arrives_116 : decode cX8_arrives 116 = .ok (.aload_n 1, 1) := by decide +kernel
theorem dX8_arrives_117 : decode cX8_arrives 117 = .ok (.getfield 156, 3) := by decide +kernel
theorem dX8_arrives_120 : decode cX8_arrives 120 = .ok (.invokevirtual 338, 3) := by decide +kernel
theorem dX8_arrives_123 : decode cX8_arrives 123 = .ok (.aload_n 0, 1) := by decide +kernel
theorem dX8_arrives_124 : decode cX8_arrives 124 = .ok (.iload_n 2, 1) := by decide +kernel
theorem dX8_arrives_125 : decode cX8_arrives 125 = .ok (.invokevirtual 322, 3) := by decide +kernel
theorem dX8_arrives_128 : decode cX8_arrives 128 = .ok (.goto 32, 3) := by decide +kernel
theorem dX8_arrives_131 : decode cX8_arrives 131 = .ok (.aload_n 0, 1) := by decide +kernel
theorem dX8_arrives_132 : decode cX8_arrives 132 = .ok (.getfield 41, 3) := by decide +kernel
theorem dX8_arrives_135 : decode cX8_arrives 135 = .ok (.iload_n 2, 1) := by decide +kernel
theorem dX8_arrives_136 : decode cX8_arrives 136 = .ok (.aaload, 1) := by decide +kernel
theorem dX8_arrives_137 : decode cX8_arrives 137 = .ok (.aload_n 1, 1) := by decide +kernel
theorem dX8_arrives_138 : decode cX8_arrives 138 = .ok (.getfield 156, 3) := by decide +kernel
theorem dX8_arrives_141 : decode cX8_arrives 141 = .ok (.aload_n 1, 1) := by decide +kernel
theorem dX8_arrives_142 : decode cX8_arrives 142 = .ok (.getfield 341, 3) := by decide +kernel
theorem dX8_arrives_145 : decode cX8_arrives 145 = .ok (.invokevirtual 344, 3) := by decide +kernel
theorem dX8_arrives_148 : decode cX8_arrives 148 = .ok (.goto 12, 3) := by decide +kernel
theorem dX8_arrives_151 : decode cX8_arrives 151 = .ok (.aload_n 0, 1) := by decide +kernel
theorem dX8_arrives_152 : decode cX8_arrives 152 = .ok (.getfield 47, 3) := by decide +kernel
theorem dX8_arrives_155 : decode cX8_arrives 155 = .ok (.iload_n 2, 1) := by decide +kernel
theorem dX8_arrives_156 : decode cX8_arrives 156 = .ok (.aaload, 1) := by decide +kernel
theorem dX8_arrives_157 : decode cX8_arrives 157 = .ok (.invokevirtual 347, 3) := by decide +kernel
theorem dX8_arrives_160 : decode cX8_arrives 160 = .ok (.return_, 1) := by decide +kernel
abbrev rm_X8_arrives : Room := { frames := 5, cells := 0, slots := 0, locals := 110 }
def P_X8_arrives (q1 : Nat) (h : HP) (Q : HP → Prop) : Prop := ((h.1 q1 1).toInt = 0 → ((vp_in (h.1 q1 0) 4) ∧ (P_X1_begin (41 + 11 * (h.1 q1 0).toNatClampNeg) (h.1 q1 2) (if 12 < (h.1 q1 3) then 12 else (h.1 q1 3)) (h.1 q1 4) h (fun (h_67 : HP) => P_X6_send (h.1 q1 0) 1 h_67 (fun (v_76 : Nat) (h_76 : HP) => (Ty gC v_76 2 0) ∧ ((vp_in (h.1 q1 0) 4) ∧ (Q (si h_76 v_76 3 (h_76.1 (41 + 11 * (h.1 q1 0).toNatClampNeg) 4))))))))) ∧ ((h.1 q1 1).toInt = 1 → ((vp_in (h.1 q1 0) 4) ∧ (P_X3_yes (34 + 11 * (h.1 q1 0).toNatClampNeg) (h.1 q1 3) h (fun (h_104 : HP) => Q h_104)))) ∧ ((h.1 q1 1).toInt = 2 → ((vp_in (h.1 q1 0) 4) ∧ (P_X1_end (41 + 11 * (h.1 q1 0).toNatClampNeg) h (fun (h_157 : HP) => Q h_157)))) ∧ ((h.1 q1 1).toInt = 3 → ((vp_in (h.1 q1 0) 4) ∧ (P_X1_bar (41 + 11 * (h.1 q1 0).toNatClampNeg) (h.1 q1 5) h (fun (h_120 : HP) => P_X8_answer (h.1 q1 0) h_120 (fun (h_125 : HP) => Q h_125))))) ∧ ((h.1 q1 1).toInt = 4 → ((vp_in (h.1 q1 0) 4) ∧ (P_X3_answered (34 + 11 * (h.1 q1 0).toNatClampNeg) (h.1 q1 5) (h.1 q1 6) h (fun (h_145 : HP) => Q h_145)))) ∧ (((h.1 q1 1).toInt < 0 ∨ 4 < (h.1 q1 1).toInt) → ((vp_in (h.1 q1 0) 4) ∧ (P_X1_end (41 + 11 * (h.1 q1 0).toNatClampNeg) h (fun (h_157 : HP) => Q h_157))))
set_option maxHeartbeats 4000000 in
theorem t_X8_arrives {q1 : Nat} {h : HP} {Q : HP → Prop} (hq1 : Ty gC q1 2 0) (hp : P_X8_arrives q1 h Q) : MT yX8_arrives cX8_arrives 3 none rm_X8_arrives [.ref 0, .ref q1] gC SH (emb h) (pV Q) := by
  refine MT.of (by decide +kernel) (Nat.le_of_ble_eq_true rfl) (fun C hC hE => ?_)
  show SW C gC 0 [(0, .ref 0), (1, .ref q1)] [] h
  unfold P_X8_arrives at hp
  refine x_aload_n hC dX8_arrives_0 (lm 1 rfl) ?_
  refine s_getI hC dX8_arrives_1 fk_8_298 hq1 ?_
  refine x_istore_n (lv' := [(2, .int (h.1 q1 0)), (0, .ref 0), (1, .ref q1)]) hC dX8_arrives_4 (by decide) rfl ?_
  refine x_aload_n hC dX8_arrives_5 (lm 2 rfl) ?_
  refine s_getI hC dX8_arrives_6 fk_8_198 hq1 ?_
  refine x_tsw (tgt := 151) hC dX8_arrives_9 [44, 94, 151, 110, 131] (by decide) (by decide) (by decide) (fun hc => ?_) (fun i t hi hx => ?_)
  · have hp := hp.2.2.2.2.2 hc
    refine x_aload_n hC dX8_arrives_151 (lm 1 rfl) ?_
    refine s_getR (r := 33) hC dX8_arrives_152 fk_8_47 ty_0 (fr_8_5 ty_0).1 ?_
    refine x_iload_n hC dX8_arrives_155 (lm 0 rfl) ?_
    obtain ⟨ho_156, hp⟩ := hp
    refine s_aald (r := 41 + 11 * (h.1 q1 0).toNatClampNeg) (ci := 1) hC dX8_arrives_156 (by decide) (by decide) ((fr_8_5 ty_0).2) ho_156 (el_33 ho_156).1 ?_
    refine s_callVv (avs := []) (st := []) hC dX8_arrives_157 ml_8_347 mi_X1_end ((el_33 ho_156).2) rfl (t_X1_end ((el_33 ho_156).2) hp) (Nat.le_of_ble_eq_true rfl) ⟨rfl, rfl⟩ ⟨Nat.le_of_ble_eq_true rfl, Nat.le_of_ble_eq_true rfl⟩ (fun h_157 hp => ?_)
    exact x_vret hC hE dX8_arrives_160 ⟨_, rfl, rfl, hp⟩
  · match i, hi, hx with
    | 0, hi, hx =>
      cases hi
      have hp := hp.1 hx
      refine x_aload_n hC dX8_arrives_44 (lm 1 rfl) ?_
      refine s_getR (r := 33) hC dX8_arrives_45 fk_8_47 ty_0 (fr_8_5 ty_0).1 ?_
      refine x_iload_n hC dX8_arrives_48 (lm 0 rfl) ?_
      obtain ⟨ho_49, hp⟩ := hp
      refine s_aald (r := 41 + 11 * (h.1 q1 0).toNatClampNeg) (ci := 1) hC dX8_arrives_49 (by decide) (by decide) ((fr_8_5 ty_0).2) ho_49 (el_33 ho_49).1 ?_
      refine x_aload_n hC dX8_arrives_50 (lm 2 rfl) ?_
      refine s_getI hC dX8_arrives_51 fk_8_119 hq1 ?_
      refine x_aload_n hC dX8_arrives_54 (lm 2 rfl) ?_
      refine s_getI hC dX8_arrives_55 fk_8_124 hq1 ?_
      refine x_bipush hC dX8_arrives_58 bp_12 ?_
      refine x_mmin hC dX8_arrives_60 mn_8_325 mn_s mn_i mn_c (Nat.le_of_ble_eq_true rfl) (Nat.le_of_ble_eq_true rfl) (Nat.zero_le _) (Nat.zero_le _) ?_
      refine x_aload_n hC dX8_arrives_63 (lm 2 rfl) ?_
      refine s_getI hC dX8_arrives_64 fk_8_127 hq1 ?_
      refine s_callVv (avs := [.int (h.1 q1 2), .int (if 12 < (h.1 q1 3) then 12 else (h.1 q1 3)), .int (h.1 q1 4)]) (st := []) hC dX8_arrives_67 ml_8_330 mi_X1_begin ((el_33 ho_49).2) rfl (t_X1_begin ((el_33 ho_49).2) hp) (Nat.le_of_ble_eq_true rfl) ⟨rfl, rfl⟩ ⟨Nat.le_of_ble_eq_true rfl, Nat.le_of_ble_eq_true rfl⟩ (fun h_67 hp => ?_)
      refine x_aload_n hC dX8_arrives_70 (lm 1 rfl) ?_
      refine s_getR (r := 5) hC dX8_arrives_71 fk_8_35 ty_0 (fr_8_3 ty_0).1 ?_
      refine x_iload_n hC dX8_arrives_74 (lm 0 rfl) ?_
      refine x_iconst hC dX8_arrives_75 ic_1 ?_
      refine s_callVr (avs := [.int (h.1 q1 0), .int 1]) (st := []) hC dX8_arrives_76 ml_8_115 mi_X6_send ty_5 rfl (t_X6_send  hp) (Nat.le_of_ble_eq_true rfl) ⟨rfl, rfl⟩ ⟨Nat.le_of_ble_eq_true rfl, Nat.le_of_ble_eq_true rfl⟩ (fun v_76 h_76 hp => ?_)
      obtain ⟨ht_76, hp⟩ := hp
      refine x_aload_n hC dX8_arrives_79 (lm 1 rfl) ?_
      refine s_getR (r := 33) hC dX8_arrives_80 fk_8_47 ty_0 (fr_8_5 ty_0).1 ?_
      refine x_iload_n hC dX8_arrives_83 (lm 0 rfl) ?_
      obtain ⟨ho_84, hp⟩ := hp
      refine s_aald (r := 41 + 11 * (h.1 q1 0).toNatClampNeg) (ci := 1) hC dX8_arrives_84 (by decide) (by decide) ((fr_8_5 ty_0).2) ho_84 (el_33 ho_84).1 ?_
      refine s_getI hC dX8_arrives_85 fk_8_334 ((el_33 ho_84).2) ?_
      refine s_putI hC dX8_arrives_88 fk_8_124 rfl rfl ht_76 ?_
      refine x_goto (tgt := 160) hC dX8_arrives_91 (by decide) ?_
      exact x_vret hC hE dX8_arrives_160 ⟨_, rfl, rfl, hp⟩
    | 1, hi, hx =>
      cases hi
      have hp := hp.2.1 hx
      refine x_aload_n hC dX8_arrives_94 (lm 1 rfl) ?_
      refine s_getR (r := 32) hC dX8_arrives_95 fk_8_41 ty_0 (fr_8_4 ty_0).1 ?_
      refine x_iload_n hC dX8_arrives_98 (lm 0 rfl) ?_
      obtain ⟨ho_99, hp⟩ := hp
      refine s_aald (r := 34 + 11 * (h.1 q1 0).toNatClampNeg) (ci := 3) hC dX8_arrives_99 (by decide) (by decide) ((fr_8_4 ty_0).2) ho_99 (el_32 ho_99).1 ?_
      refine x_aload_n hC dX8_arrives_100 (lm 2 rfl) ?_
      refine s_getI hC dX8_arrives_101 fk_8_124 hq1 ?_
      refine s_callVv (avs := [.int (h.1 q1 3)]) (st := []) hC dX8_arrives_104 ml_8_335 mi_X3_yes ((el_32 ho_99).2) rfl (t_X3_yes ((el_32 ho_99).2) hp) (Nat.le_of_ble_eq_true rfl) ⟨rfl, rfl⟩ ⟨Nat.le_of_ble_eq_true rfl, Nat.le_of_ble_eq_true rfl⟩ (fun h_104 hp => ?_)
      refine x_goto (tgt := 160) hC dX8_arrives_107 (by decide) ?_
      exact x_vret hC hE dX8_arrives_160 ⟨_, rfl, rfl, hp⟩
    | 2, hi, hx =>
      cases hi
      have hp := hp.2.2.1 hx
      refine x_aload_n hC dX8_arrives_151 (lm 1 rfl) ?_
      refine s_getR (r := 33) hC dX8_arrives_152 fk_8_47 ty_0 (fr_8_5 ty_0).1 ?_
      refine x_iload_n hC dX8_arrives_155 (lm 0 rfl) ?_
      obtain ⟨ho_156, hp⟩ := hp
      refine s_aald (r := 41 + 11 * (h.1 q1 0).toNatClampNeg) (ci := 1) hC dX8_arrives_156 (by decide) (by decide) ((fr_8_5 ty_0).2) ho_156 (el_33 ho_156).1 ?_
      refine s_callVv (avs := []) (st := []) hC dX8_arrives_157 ml_8_347 mi_X1_end ((el_33 ho_156).2) rfl (t_X1_end ((el_33 ho_156).2) hp) (Nat.le_of_ble_eq_true rfl) ⟨rfl, rfl⟩ ⟨Nat.le_of_ble_eq_true rfl, Nat.le_of_ble_eq_true rfl⟩ (fun h_157 hp => ?_)
      exact x_vret hC hE dX8_arrives_160 ⟨_, rfl, rfl, hp⟩
    | 3, hi, hx =>
      cases hi
      have hp := hp.2.2.2.1 hx
      refine x_aload_n hC dX8_arrives_110 (lm 1 rfl) ?_
      refine s_getR (r := 33) hC dX8_arrives_111 fk_8_47 ty_0 (fr_8_5 ty_0).1 ?_
      refine x_iload_n hC dX8_arrives_114 (lm 0 rfl) ?_
      obtain ⟨ho_115, hp⟩ := hp
      refine s_aald (r := 41 + 11 * (h.1 q1 0).toNatClampNeg) (ci := 1) hC dX8_arrives_115 (by decide) (by decide) ((fr_8_5 ty_0).2) ho_115 (el_33 ho_115).1 ?_
      refine x_aload_n hC dX8_arrives_116 (lm 2 rfl) ?_
      refine s_getI hC dX8_arrives_117 fk_8_156 hq1 ?_
      refine s_callVv (avs := [.int (h.1 q1 5)]) (st := []) hC dX8_arrives_120 ml_8_338 mi_X1_bar ((el_33 ho_115).2) rfl (t_X1_bar ((el_33 ho_115).2) hp) (Nat.le_of_ble_eq_true rfl) ⟨rfl, rfl⟩ ⟨Nat.le_of_ble_eq_true rfl, Nat.le_of_ble_eq_true rfl⟩ (fun h_120 hp => ?_)
      refine x_aload_n hC dX8_arrives_123 (lm 1 rfl) ?_
      refine x_iload_n hC dX8_arrives_124 (lm 0 rfl) ?_
      refine s_callVv (avs := [.int (h.1 q1 0)]) (st := []) hC dX8_arrives_125 ml_8_322 mi_X8_answer ty_0 rfl (t_X8_answer  hp) (Nat.le_of_ble_eq_true rfl) ⟨rfl, rfl⟩ ⟨Nat.le_of_ble_eq_true rfl, Nat.le_of_ble_eq_true rfl⟩ (fun h_125 hp => ?_)
      refine x_goto (tgt := 160) hC dX8_arrives_128 (by decide) ?_
      exact x_vret hC hE dX8_arrives_160 ⟨_, rfl, rfl, hp⟩
    | 4, hi, hx =>
      cases hi
      have hp := hp.2.2.2.2.1 hx
      refine x_aload_n hC dX8_arrives_131 (lm 1 rfl) ?_
      refine s_getR (r := 32) hC dX8_arrives_132 fk_8_41 ty_0 (fr_8_4 ty_0).1 ?_
      refine x_iload_n hC dX8_arrives_135 (lm 0 rfl) ?_
      obtain ⟨ho_136, hp⟩ := hp
      refine s_aald (r := 34 + 11 * (h.1 q1 0).toNatClampNeg) (ci := 3) hC dX8_arrives_136 (by decide) (by decide) ((fr_8_4 ty_0).2) ho_136 (el_32 ho_136).1 ?_
      refine x_aload_n hC dX8_arrives_137 (lm 2 rfl) ?_
      refine s_getI hC dX8_arrives_138 fk_8_156 hq1 ?_
      refine x_aload_n hC dX8_arrives_141 (lm 2 rfl) ?_
      refine s_getI hC dX8_arrives_142 fk_8_341 hq1 ?_
      refine s_callVv (avs := [.int (h.1 q1 5), .int (h.1 q1 6)]) (st := []) hC dX8_arrives_145 ml_8_344 mi_X3_answered ((el_32 ho_136).2) rfl (t_X3_answered ((el_32 ho_136).2) hp) (Nat.le_of_ble_eq_true rfl) ⟨rfl, rfl⟩ ⟨Nat.le_of_ble_eq_true rfl, Nat.le_of_ble_eq_true rfl⟩ (fun h_145 hp => ?_)
      refine x_goto (tgt := 160) hC dX8_arrives_148 (by decide) ?_
      exact x_vret hC hE dX8_arrives_160 ⟨_, rfl, rfl, hp⟩
    | i + 5, hi, hx => exact absurd hi (by simp)
