theorem dX9_far_0 : decode cX9_far 0 = .ok (.aload_n 0, 1) := by decide +kernel
theorem dX9_far_1 : decode cX9_far 1 = .ok (.iload_n 1, 1) := by decide +kernel
theorem dX9_far_2 : decode cX9_far 2 = .ok (.invokevirtual 171, 3) := by decide +kernel
theorem dX9_far_5 : decode cX9_far 5 = .ok (.ifCond .ne 8, 3) := by decide +kernel
theorem dX9_far_8 : decode cX9_far 8 = .ok (.bipush (-101), 2) := by decide +kernel
theorem dX9_far_10 : decode cX9_far 10 = .ok (.goto 24, 3) := by decide +kernel
theorem dX9_far_13 : decode cX9_far 13 = .ok (.iload_n 2, 1) := by decide +kernel
theorem dX9_far_14 : decode cX9_far 14 = .ok (.iconst 0, 1) := by decide +kernel
theorem dX9_far_15 : decode cX9_far 15 = .ok (.bipush 8, 2) := by decide +kernel
theorem dX9_far_17 : decode cX9_far 17 = .ok (.invokestatic 123, 3) := by decide +kernel
theorem dX9_far_20 : decode cX9_far 20 = .ok (.ifCond .eq 12, 3) := by decide +kernel
theorem dX9_far_23 : decode cX9_far 23 = .ok (.aload_n 0, 1) := by decide +kernel
theorem dX9_far_24 : decode cX9_far 24 = .ok (.iload_n 1, 1) := by decide +kernel
theorem dX9_far_25 : decode cX9_far 25 = .ok (.iload_n 2, 1) := by decide +kernel
theorem dX9_far_26 : decode cX9_far 26 = .ok (.invokevirtual 306, 3) := by decide +kernel
theorem dX9_far_29 : decode cX9_far 29 = .ok (.goto 5, 3) := by decide +kernel
theorem dX9_far_32 : decode cX9_far 32 = .ok (.bipush (-102), 2) := by decide +kernel
theorem dX9_far_34 : decode cX9_far 34 = .ok (.ireturn, 1) := by decide +kernel
abbrev rm_X9_far : Room := { frames := 2, cells := 0, slots := 0, locals := 45 }
def P_X9_far (i1 : Int32) (i2 : Int32) (h : HP) (Q : Int32 → HP → Prop) : Prop := P_X9_isClass i1 h (fun (v_2 : Int32) (h_2 : HP) => ((¬ v_2 = 0) → (P_X9_within i2 0 8 h_2 (fun (v_17 : Int32) (h_17 : HP) => ((v_17 = 0) → (Q (-102) h_17)) ∧ ((¬ v_17 = 0) → (P_X9_farNow i1 i2 h_17 (fun (v_26 : Int32) (h_26 : HP) => Q v_26 h_26)))))) ∧ ((v_2 = 0) → (Q (-101) h_2)))
set_option maxHeartbeats 4000000 in
theorem t_X9_far {i1 : Int32} {i2 : Int32} {h : HP} {Q : Int32 → HP → Prop}  (hp : P_X9_far i1 i2 h Q) : MT yX9_far cX9_far 3 (some .int) rm_X9_far [.ref 78, .int i1, .int i2] gM SH (emb h) (pI Q) := by
  refine MT.of (by decide +kernel) (Nat.le_of_ble_eq_true rfl) (fun C hC hE => ?_)
  show SW C gM 0 [(0, .ref 78), (1, .int i1), (2, .int i2)] [] h
  unfold P_X9_far at hp
  refine x_aload_n hC dX9_far_0 (lm 0 rfl) ?_
  refine x_iload_n hC dX9_far_1 (lm 1 rfl) ?_
  refine s_callVi (avs := [.int i1]) (st := []) hC dX9_far_2 ml_9_171 mi_X9_isClass ty_78 rfl (t_X9_isClass  hp) (Nat.le_of_ble_eq_true rfl) ⟨rfl, rfl⟩ ⟨Nat.le_of_ble_eq_true rfl, Nat.le_of_ble_eq_true rfl⟩ (fun v_2 h_2 hp => ?_)
  refine x_if_ne (tgt := 13) hC dX9_far_5 (by decide) (fun hc => ?_) (fun hc => ?_)
  · have hp := hp.1 hc
    refine x_iload_n hC dX9_far_13 (lm 2 rfl) ?_
    refine x_iconst hC dX9_far_14 ic_0 ?_
    refine x_bipush hC dX9_far_15 bp_8 ?_
    refine s_callSi (avs := [.int i2, .int 0, .int 8]) (st := []) hC dX9_far_17 ml_9_123 ms_X9_within rfl (t_X9_within  hp) (Nat.le_of_ble_eq_true rfl) ⟨rfl, rfl⟩ ⟨Nat.le_of_ble_eq_true rfl, Nat.le_of_ble_eq_true rfl⟩ (fun v_17 h_17 hp => ?_)
    refine x_if_eq (tgt := 32) hC dX9_far_20 (by decide) (fun hc => ?_) (fun hc => ?_)
    · have hp := hp.1 hc
      refine x_bipush hC dX9_far_32 bp_m102 ?_
      exact x_iret hC hE dX9_far_34 ⟨_, _, rfl, rfl, hp⟩
    · have hp := hp.2 hc
      refine x_aload_n hC dX9_far_23 (lm 0 rfl) ?_
      refine x_iload_n hC dX9_far_24 (lm 1 rfl) ?_
      refine x_iload_n hC dX9_far_25 (lm 2 rfl) ?_
      refine s_callVi (avs := [.int i1, .int i2]) (st := []) hC dX9_far_26 ml_9_306 mi_X9_farNow ty_78 rfl (t_X9_farNow  hp) (Nat.le_of_ble_eq_true rfl) ⟨rfl, rfl⟩ ⟨Nat.le_of_ble_eq_true rfl, Nat.le_of_ble_eq_true rfl⟩ (fun v_26 h_26 hp => ?_)
      refine x_goto (tgt := 34) hC dX9_far_29 (by decide) ?_
      exact x_iret hC hE dX9_far_34 ⟨_, _, rfl, rfl, hp⟩
  · have hp := hp.2 hc
    refine x_bipush hC dX9_far_8 bp_m101 ?_
    refine x_goto (tgt := 34) hC dX9_far_10 (by decide) ?_
    exact x_iret hC hE dX9_far_34 ⟨_, _, rfl, rfl, hp⟩
theorem dX9_held_0 : decode cX9_held 0 = .ok (.aload_n 0, 1) := by decide +kernel
theorem dX9_held_1 : decode cX9_held 1 = .ok (.iload_n 1, 1) := by decide +kernel
theorem dX9_held_2 : decode cX9_held 2 = .ok (.invokevirtual 171, 3) := by decide +kernel
theorem dX9_held_5 : decode cX9_held 5 = .ok (.ifCond .eq 28, 3) := by decide +kernel
theorem dX9_held_8 : decode cX9_held 8 = .ok (.aload_n 0, 1) := by decide +kernel
theorem dX9_held_9 : decode cX9_held 9 = .ok (.getfield 71, 3) := by decide +kernel
theorem dX9_held_12 : decode cX9_held 12 = .ok (.iload_n 1, 1) := by decide +kernel
theorem dX9_held_13 : decode cX9_held 13 = .ok (.baload, 1) := by decide +kernel
theorem dX9_held_14 : decode cX9_held 14 = .ok (.ifCond .eq 19, 3) := by decide +kernel
theorem dX9_held_17 : decode cX9_held 17 = .ok (.iload_n 2, 1) := by decide +kernel
theorem dX9_held_18 : decode cX9_held 18 = .ok (.iconst 0, 1) := by decide +kernel
theorem dX9_held_19 : decode cX9_held 19 = .ok (.aload_n 0, 1) := by decide +kernel
theorem dX9_held_20 : decode cX9_held 20 = .ok (.getfield 77, 3) := by decide +kernel
theorem dX9_held_23 : decode cX9_held 23 = .ok (.iload_n 1, 1) := by decide +kernel
theorem dX9_held_24 : decode cX9_held 24 = .ok (.iaload, 1) := by decide +kernel
theorem dX9_held_25 : decode cX9_held 25 = .ok (.iconst 1, 1) := by decide +kernel
theorem dX9_held_26 : decode cX9_held 26 = .ok (.isub, 1) := by decide +kernel
theorem dX9_held_27 : decode cX9_held 27 = .ok (.invokestatic 123, 3) := by decide +kernel
theorem dX9_held_30 : decode cX9_held 30 = .ok (.ifCond .ne 6, 3) := by decide +kernel
theorem dX9_held_33 : decode cX9_held 33 = .ok (.bipush (-101), 2) := by decide +kernel
theorem dX9_held_35 : decode cX9_held 35 = .ok (.ireturn, 1) := by decide +kernel
theorem dX9_held_36 : decode cX9_held 36 = .ok (.aload_n 0, 1) := by decide +kernel
theorem dX9_held_37 : decode cX9_held 37 = .ok (.getfield 98, 3) := by decide +kernel
theorem dX9_held_40 : decode cX9_held 40 = .ok (.bipush 64, 2) := by decide +kernel
theorem dX9_held_42 : decode cX9_held 42 = .ok (.iload_n 1, 1) := by decide +kernel
theorem dX9_held_43 : decode cX9_held 43 = .ok (.imul, 1) := by decide +kernel
theorem dX9_held_44 : decode cX9_held 44 = .ok (.aload_n 0, 1) := by decide +kernel
theorem dX9_held_45 : decode cX9_held 45 = .ok (.getfield 83, 3) := by decide +kernel
theorem dX9_held_48 : decode cX9_held 48 = .ok (.iload_n 1, 1) := by decide +kernel
theorem dX9_held_49 : decode cX9_held 49 = .ok (.iaload, 1) := by decide +kernel
theorem dX9_held_50 : decode cX9_held 50 = .ok (.iload_n 2, 1) := by decide +kernel
theorem dX9_held_51 : decode cX9_held 51 = .ok (.iadd, 1) := by decide +kernel
theorem dX9_held_52 : decode cX9_held 52 = .ok (.bipush 64, 2) := by decide +kernel
theorem dX9_held_54 : decode cX9_held 54 = .ok (.irem, 1) := by decide +kernel
theorem dX9_held_55 : decode cX9_held 55 = .ok (.iadd, 1) := by decide +kernel
theorem dX9_held_56 : decode cX9_held 56 = .ok (.iaload, 1) := by decide +kernel
theorem dX9_held_57 : decode cX9_held 57 = .ok (.ireturn, 1) := by decide +kernel
abbrev rm_X9_held : Room := { frames := 2, cells := 0, slots := 0, locals := 43 }
def P_X9_held (i1 : Int32) (i2 : Int32) (h : HP) (Q : Int32 → HP → Prop) : Prop := P_X9_isClass i1 h (fun (v_2 : Int32) (h_2 : HP) => ((v_2 = 0) → (Q (-101) h_2)) ∧ ((¬ v_2 = 0) → ((vp_in i1 4) ∧ ((((h_2.1 99 i1.toNatClampNeg) = 0) → (Q (-101) h_2)) ∧ ((¬ (h_2.1 99 i1.toNatClampNeg) = 0) → ((vp_in i1 4) ∧ (P_X9_within i2 0 ((h_2.1 101 i1.toNatClampNeg) - 1) h_2 (fun (v_27 : Int32) (h_27 : HP) => ((¬ v_27 = 0) → ((vp_in i1 4) ∧ ((vp_in ((64 * i1) + (((h_27.1 103 i1.toNatClampNeg) + i2) - ((h_27.1 103 i1.toNatClampNeg) + i2) / 64 * 64)) 256) ∧ (Q (h_27.1 108 ((64 * i1) + (((h_27.1 103 i1.toNatClampNeg) + i2) - ((h_27.1 103 i1.toNatClampNeg) + i2) / 64 * 64)).toNatClampNeg) h_27)))) ∧ ((v_27 = 0) → (Q (-101) h_27))))))))))
set_option maxHeartbeats 4000000 in
theorem t_X9_held {i1 : Int32} {i2 : Int32} {h : HP} {Q : Int32 → HP → Prop}  (hp : P_X9_held i1 i2 h Q) : MT yX9_held cX9_held 3 (some .int) rm_X9_held [.ref 78, .int i1, .int i2] gM SH (emb h) (pI Q) := by
  refine MT.of (by decide +kernel) (Nat.le_of_ble_eq_true rfl) (fun C hC hE => ?_)
  show SW C gM 0 [(0, .ref 78), (1, .int i1), (2, .int i2)] [] h
  unfold P_X9_held at hp
  refine x_aload_n hC dX9_held_0 (lm 0 rfl) ?_
  refine x_iload_n hC dX9_held_1 (lm 1 rfl) ?_
  refine s_callVi (avs := [.int i1]) (st := []) hC dX9_held_2 ml_9_171 mi_X9_isClass ty_78 rfl (t_X9_isClass  hp) (Nat.le_of_ble_eq_true rfl) ⟨rfl, rfl⟩ ⟨Nat.le_of_ble_eq_true rfl, Nat.le_of_ble_eq_true rfl⟩ (fun v_2 h_2 hp => ?_)
  refine x_if_eq (tgt := 33) hC dX9_held_5 (by decide) (fun hc => ?_) (fun hc => ?_)
  · have hp := hp.1 hc
    refine x_bipush hC dX9_held_33 bp_m101 ?_
    exact x_iret hC hE dX9_held_35 ⟨_, _, rfl, rfl, hp⟩
  · have hp := hp.2 hc
    refine x_aload_n hC dX9_held_8 (lm 0 rfl) ?_
    refine s_getR (r := 99) hC dX9_held_9 fk_9_71 ty_78 (fr_9_27 ty_78).1 ?_
    refine x_iload_n hC dX9_held_12 (lm 1 rfl) ?_
    obtain ⟨ho, hp⟩ := hp
    refine s_zald hC dX9_held_13 ((fr_9_27 ty_78).2) ho ?_
    refine x_if_eq (tgt := 33) hC dX9_held_14 (by decide) (fun hc => ?_) (fun hc => ?_)
    · have hp := hp.1 hc
      refine x_bipush hC dX9_held_33 bp_m101 ?_
      exact x_iret hC hE dX9_held_35 ⟨_, _, rfl, rfl, hp⟩
    · have hp := hp.2 hc
      refine x_iload_n hC dX9_held_17 (lm 2 rfl) ?_
      refine x_iconst hC dX9_held_18 ic_0 ?_
      refine x_aload_n hC dX9_held_19 (lm 0 rfl) ?_
      refine s_getR (r := 101) hC dX9_held_20 fk_9_77 ty_78 (fr_9_29 ty_78).1 ?_
      refine x_iload_n hC dX9_held_23 (lm 1 rfl) ?_
      obtain ⟨ho, hp⟩ := hp
      refine s_iald hC dX9_held_24 ((fr_9_29 ty_78).2) ho ?_
      refine x_iconst hC dX9_held_25 ic_1 ?_
      refine x_isub hC dX9_held_26 ?_
      refine s_callSi (avs := [.int i2, .int 0, .int ((h_2.1 101 i1.toNatClampNeg) - 1)]) (st := []) hC dX9_held_27 ml_9_123 ms_X9_within rfl (t_X9_within  hp) (Nat.le_of_ble_eq_true rfl) ⟨rfl, rfl⟩ ⟨Nat.le_of_ble_eq_true rfl, Nat.le_of_ble_eq_true rfl⟩ (fun v_27 h_27 hp => ?_)
      refine x_if_ne (tgt := 36) hC dX9_held_30 (by decide) (fun hc => ?_) (fun hc => ?_)
      · have hp := hp.1 hc
        refine x_aload_n hC dX9_held_36 (lm 0 rfl) ?_
        refine s_getR (r := 108) hC dX9_held_37 fk_9_98 ty_78 (fr_9_36 ty_78).1 ?_
        refine x_bipush hC dX9_held_40 bp_64 ?_
        refine x_iload_n hC dX9_held_42 (lm 1 rfl) ?_
        refine x_imul hC dX9_held_43 ?_
        refine x_aload_n hC dX9_held_44 (lm 0 rfl) ?_
        refine s_getR (r := 103) hC dX9_held_45 fk_9_83 ty_78 (fr_9_31 ty_78).1 ?_
        refine x_iload_n hC dX9_held_48 (lm 1 rfl) ?_
        obtain ⟨ho, hp⟩ := hp
        refine s_iald hC dX9_held_49 ((fr_9_31 ty_78).2) ho ?_
        refine x_iload_n hC dX9_held_50 (lm 2 rfl) ?_
        refine x_iadd hC dX9_held_51 ?_
        refine x_bipush hC dX9_held_52 bp_64 ?_
        refine x_irem hC dX9_held_54 (by decide) ?_
        refine x_iadd hC dX9_held_55 ?_
        obtain ⟨ho, hp⟩ := hp
        refine s_iald hC dX9_held_56 ((fr_9_36 ty_78).2) ho ?_
        exact x_iret hC hE dX9_held_57 ⟨_, _, rfl, rfl, hp⟩
      · have hp := hp.2 hc
        refine x_bipush hC dX9_held_33 bp_m101 ?_
        exact x_iret hC hE dX9_held_35 ⟨_, _, rfl, rfl, hp⟩
theorem dX9_as_0 : decode cX9_as 0 = .ok (.aload_n 0, 1) := by decide +kernel
theorem dX9_as_1 : decode cX9_as 1 = .ok (.iload_n 1, 1) := by decide +kernel
theorem dX9_as_2 : decode cX9_as 2 = .ok (.invokevirtual 171, 3) := by decide +kernel
theorem dX9_as_5 : decode cX9_as 5 = .ok (.ifCond .eq 12, 3) := by decide +kernel
theorem dX9_as_8 : decode cX9_as 8 = .ok (.aload_n 0, 1) := by decide +kernel
theorem dX9_as_9 : decode cX9_as 9 = .ok (.getfield 71, 3) := by decide +kernel
theorem dX9_as_12 : decode cX9_as 12 = .ok (.iload_n 1, 1) := by decide +kernel
theorem dX9_as_13 : decode cX9_as 13 = .ok (.baload, 1) := by decide +kernel
theorem dX9_as_14 : decode cX9_as 14 = .ok (.ifCond .ne 6, 3) := by decide +kernel
theorem dX9_as_17 : decode cX9_as 17 = .ok (.bipush (-101), 2) := by decide +kernel
theorem dX9_as_19 : decode cX9_as 19 = .ok (.ireturn, 1) := by decide +kernel
theorem dX9_as_20 : decode cX9_as 20 = .ok (.iload_n 2, 1) := by decide +kernel
theorem dX9_as_21 : decode cX9_as 21 = .ok (.iconst 0, 1) := by decide +kernel
theorem dX9_as_22 : decode cX9_as 22 = .ok (.iconst 2, 1) := by decide +kernel
theorem dX9_as_23 : decode cX9_as 23 = .ok (.invokestatic 123, 3) := by decide +kernel
theorem dX9_as_26 : decode cX9_as 26 = .ok (.ifCond .ne 6, 3) := by decide +kernel
theorem dX9_as_29 : decode cX9_as 29 = .ok (.bipush (-102), 2) := by decide +kernel
theorem dX9_as_31 : decode cX9_as 31 = .ok (.ireturn, 1) := by decide +kernel
theorem dX9_as_32 : decode cX9_as 32 = .ok (.aload_n 0, 1) := by decide +kernel
theorem dX9_as_33 : decode cX9_as 33 = .ok (.getfield 74, 3) := by decide +kernel
theorem dX9_as_36 : decode cX9_as 36 = .ok (.iload_n 1, 1) := by decide +kernel
theorem dX9_as_37 : decode cX9_as 37 = .ok (.iaload, 1) := by decide +kernel
theorem dX9_as_38 : decode cX9_as 38 = .ok (.istore_n 3, 1) := by decide +kernel
theorem dX9_as_39 : decode cX9_as 39 = .ok (.iload_n 3, 1) := by decide +kernel
theorem dX9_as_40 : decode cX9_as 40 = .ok (.iload_n 2, 1) := by decide +kernel
theorem dX9_as_41 : decode cX9_as 41 = .ok (.if_icmp .eq 12, 3) := by decide +kernel
theorem dX9_as_44 : decode cX9_as 44 = .ok (.iload_n 3, 1) := by decide +kernel
theorem dX9_as_45 : decode cX9_as 45 = .ok (.iconst 1, 1) := by decide +kernel
theorem dX9_as_46 : decode cX9_as 46 = .ok (.if_icmp .ne 11, 3) := by decide +kernel
theorem dX9_as_49 : decode cX9_as 49 = .ok (.iload_n 2, 1) := by decide +kernel
theorem dX9_as_50 : decode cX9_as 50 = .ok (.ifCond .ne 7, 3) := by decide +kernel
theorem dX9_as_53 : decode cX9_as 53 = .ok (.iload_n 3, 1) := by decide +kernel
theorem dX9_as_54 : decode cX9_as 54 = .ok (.goto 4, 3) := by decide +kernel
theorem dX9_as_57 : decode cX9_as 57 = .ok (.iconst (-1), 1) := by decide +kernel
theorem dX9_as_58 : decode cX9_as 58 = .ok (.ireturn, 1) := by decide +kernel
abbrev rm_X9_as : Room := { frames := 2, cells := 0, slots := 0, locals := 43 }
def P_X9_as (i1 : Int32) (i2 : Int32) (h : HP) (Q : Int32 → HP → Prop) : Prop := P_X9_isClass i1 h (fun (v_2 : Int32) (h_2 : HP) => ((v_2 = 0) → (Q (-101) h_2)) ∧ ((¬ v_2 = 0) → ((vp_in i1 4) ∧ (((¬ (h_2.1 99 i1.toNatClampNeg) = 0) → (P_X9_within i2 0 2 h_2 (fun (v_23 : Int32) (h_23 : HP) => ((¬ v_23 = 0) → ((vp_in i1 4) ∧ ((((h_23.1 100 i1.toNatClampNeg) = i2) → (Q (h_23.1 100 i1.toNatClampNeg) h_23)) ∧ ((¬ (h_23.1 100 i1.toNatClampNeg) = i2) → (((¬ (h_23.1 100 i1.toNatClampNeg) = 1) → (Q (-1) h_23)) ∧ (((h_23.1 100 i1.toNatClampNeg) = 1) → (((¬ i2 = 0) → (Q (-1) h_23)) ∧ ((i2 = 0) → (Q (h_23.1 100 i1.toNatClampNeg) h_23))))))))) ∧ ((v_23 = 0) → (Q (-102) h_23))))) ∧ (((h_2.1 99 i1.toNatClampNeg) = 0) → (Q (-101) h_2))))))
set_option maxHeartbeats 4000000 in
theorem t_X9_as {i1 : Int32} {i2 : Int32} {h : HP} {Q : Int32 → HP → Prop}  (hp : P_X9_as i1 i2 h Q) : MT yX9_as cX9_as 4 (some .int) rm_X9_as [.ref 78, .int i1, .int i2] gM SH (emb h) (pI Q) := by
  refine MT.of (by decide +kernel) (Nat.le_of_ble_eq_true rfl) (fun C hC hE => ?_)
  show SW C gM 0 [(0, .ref 78), (1, .int i1), (2, .int i2)] [] h
  unfold P_X9_as at hp
  refine x_aload_n hC dX9_as_0 (lm 0 rfl) ?_
  refine x_iload_n hC dX9_as_1 (lm 1 rfl) ?_
  refine s_callVi (avs := [.int i1]) (st := []) hC dX9_as_2 ml_9_171 mi_X9_isClass ty_78 rfl (t_X9_isClass  hp) (Nat.le_of_ble_eq_true rfl) ⟨rfl, rfl⟩ ⟨Nat.le_of_ble_eq_true rfl, Nat.le_of_ble_eq_true rfl⟩ (fun v_2 h_2 hp => ?_)
  refine x_if_eq (tgt := 17) hC dX9_as_5 (by decide) (fun hc => ?_) (fun hc => ?_)
  · have hp := hp.1 hc
    refine x_bipush hC dX9_as_17 bp_m101 ?_
    exact x_iret hC hE dX9_as_19 ⟨_, _, rfl, rfl, hp⟩
  · have hp := hp.2 hc
    refine x_aload_n hC dX9_as_8 (lm 0 rfl) ?_
    refine s_getR (r := 99) hC dX9_as_9 fk_9_71 ty_78 (fr_9_27 ty_78).1 ?_
    refine x_iload_n hC dX9_as_12 (lm 1 rfl) ?_
    obtain ⟨ho, hp⟩ := hp
    refine s_zald hC dX9_as_13 ((fr_9_27 ty_78).2) ho ?_
    refine x_if_ne (tgt := 20) hC dX9_as_14 (by decide) (fun hc => ?_) (fun hc => ?_)
    · have hp := hp.1 hc
      refine x_iload_n hC dX9_as_20 (lm 2 rfl) ?_
      refine x_iconst hC dX9_as_21 ic_0 ?_
      refine x_iconst hC dX9_as_22 ic_2 ?_
      refine s_callSi (avs := [.int i2, .int 0, .int 2]) (st := []) hC dX9_as_23 ml_9_123 ms_X9_within rfl (t_X9_within  hp) (Nat.le_of_ble_eq_true rfl) ⟨rfl, rfl⟩ ⟨Nat.le_of_ble_eq_true rfl, Nat.le_of_ble_eq_true rfl⟩ (fun v_23 h_23 hp => ?_)
      refine x_if_ne (tgt := 32) hC dX9_as_26 (by decide) (fun hc => ?_) (fun hc => ?_)
      · have hp := hp.1 hc
        refine x_aload_n hC dX9_as_32 (lm 0 rfl) ?_
        refine s_getR (r := 100) hC dX9_as_33 fk_9_74 ty_78 (fr_9_28 ty_78).1 ?_
        refine x_iload_n hC dX9_as_36 (lm 1 rfl) ?_
        obtain ⟨ho, hp⟩ := hp
        refine s_iald hC dX9_as_37 ((fr_9_28 ty_78).2) ho ?_
        refine x_istore_n (lv' := [(3, .int (h_23.1 100 i1.toNatClampNeg)), (0, .ref 78), (1, .int i1), (2, .int i2)]) hC dX9_as_38 (by decide) rfl ?_
        refine x_iload_n hC dX9_as_39 (lm 0 rfl) ?_
        refine x_iload_n hC dX9_as_40 (lm 3 rfl) ?_
        refine x_icmp_eq (tgt := 53) hC dX9_as_41 (by decide) (fun hc => ?_) (fun hc => ?_)
        · have hp := hp.1 hc
          refine x_iload_n hC dX9_as_53 (lm 0 rfl) ?_
          refine x_goto (tgt := 58) hC dX9_as_54 (by decide) ?_
          exact x_iret hC hE dX9_as_58 ⟨_, _, rfl, rfl, hp⟩
        · have hp := hp.2 hc
          refine x_iload_n hC dX9_as_44 (lm 0 rfl) ?_
          refine x_iconst hC dX9_as_45 ic_1 ?_
          refine x_icmp_ne (tgt := 57) hC dX9_as_46 (by decide) (fun hc => ?_) (fun hc => ?_)
          · have hp := hp.1 hc
            refine x_iconst hC dX9_as_57 ic_m1 ?_
            exact x_iret hC hE dX9_as_58 ⟨_, _, rfl, rfl, hp⟩
          · have hp := hp.2 hc
            refine x_iload_n hC dX9_as_49 (lm 3 rfl) ?_
            refine x_if_ne (tgt := 57) hC dX9_as_50 (by decide) (fun hc => ?_) (fun hc => ?_)
            · have hp := hp.1 hc
              refine x_iconst hC dX9_as_57 ic_m1 ?_
              exact x_iret hC hE dX9_as_58 ⟨_, _, rfl, rfl, hp⟩
            · have hp := hp.2 hc
              refine x_iload_n hC dX9_as_53 (lm 0 rfl) ?_
              refine x_goto (tgt := 58) hC dX9_as_54 (by decide) ?_
              exact x_iret hC hE dX9_as_58 ⟨_, _, rfl, rfl, hp⟩
      · have hp := hp.2 hc
        refine x_bipush hC dX9_as_29 bp_m102 ?_
        exact x_iret hC hE dX9_as_31 ⟨_, _, rfl, rfl, hp⟩
    · have hp := hp.2 hc
      refine x_bipush hC dX9_as_17 bp_m101 ?_
      exact x_iret hC hE dX9_as_19 ⟨_, _, rfl, rfl, hp⟩
theorem dX9_released_0 : decode cX9_released 0 = .ok (.aload_n 0, 1) := by decide +kernel
theorem dX9_released_1 : decode cX9_released 1 = .ok (.iload_n 1, 1) := by decide +kernel
theorem dX9_released_2 : decode cX9_released 2 = .ok (.invokevirtual 171, 3) := by decide +kernel
theorem dX9_released_5 : decode cX9_released 5 = .ok (.ifCond .eq 33, 3) := by decide +kernel
theorem dX9_released_8 : decode cX9_released 8 = .ok (.iload_n 2, 1) := by decide +kernel
theorem dX9_released_9 : decode cX9_released 9 = .ok (.iconst 0, 1) := by decide +kernel
theorem dX9_released_10 : decode cX9_released 10 = .ok (.aload_n 0, 1) := by decide +kernel
theorem dX9_released_11 : decode cX9_released 11 = .ok (.getfield 101, 3) := by decide +kernel
theorem dX9_released_14 : decode cX9_released 14 = .ok (.iload_n 1, 1) := by decide +kernel
theorem dX9_released_15 : decode cX9_released 15 = .ok (.iaload, 1) := by decide +kernel
theorem dX9_released_16 : decode cX9_released 16 = .ok (.iconst 1, 1) := by decide +kernel
theorem dX9_released_17 : decode cX9_released 17 = .ok (.isub, 1) := by decide +kernel
theorem dX9_released_18 : decode cX9_released 18 = .ok (.invokestatic 123, 3) := by decide +kernel
theorem dX9_released_21 : decode cX9_released 21 = .ok (.ifCond .eq 17, 3) := by decide +kernel
theorem dX9_released_24 : decode cX9_released 24 = .ok (.aload_n 0, 1) := by decide +kernel
theorem dX9_released_25 : decode cX9_released 25 = .ok (.getfield 104, 3) := by decide +kernel
theorem dX9_released_28 : decode cX9_released 28 = .ok (.bipush 10, 2) := by decide +kernel
theorem dX9_released_30 : decode cX9_released 30 = .ok (.iload_n 1, 1) := by decide +kernel
theorem dX9_released_31 : decode cX9_released 31 = .ok (.imul, 1) := by decide +kernel
theorem dX9_released_32 : decode cX9_released 32 = .ok (.iload_n 2, 1) := by decide +kernel
theorem dX9_released_33 : decode cX9_released 33 = .ok (.iadd, 1) := by decide +kernel
theorem dX9_released_34 : decode cX9_released 34 = .ok (.iaload, 1) := by decide +kernel
theorem dX9_released_35 : decode cX9_released 35 = .ok (.goto 5, 3) := by decide +kernel
theorem dX9_released_38 : decode cX9_released 38 = .ok (.bipush (-101), 2) := by decide +kernel
theorem dX9_released_40 : decode cX9_released 40 = .ok (.ireturn, 1) := by decide +kernel
abbrev rm_X9_released : Room := { frames := 2, cells := 0, slots := 0, locals := 43 }
def P_X9_released (i1 : Int32) (i2 : Int32) (h : HP) (Q : Int32 → HP → Prop) : Prop := P_X9_isClass i1 h (fun (v_2 : Int32) (h_2 : HP) => ((v_2 = 0) → (Q (-101) h_2)) ∧ ((¬ v_2 = 0) → ((vp_in i1 4) ∧ (P_X9_within i2 0 ((h_2.1 109 i1.toNatClampNeg) - 1) h_2 (fun (v_18 : Int32) (h_18 : HP) => ((v_18 = 0) → (Q (-101) h_18)) ∧ ((¬ v_18 = 0) → ((vp_in ((10 * i1) + i2) 40) ∧ (Q (h_18.1 110 ((10 * i1) + i2).toNatClampNeg) h_18))))))))
set_option maxHeartbeats 4000000 in
theorem t_X9_released {i1 : Int32} {i2 : Int32} {h : HP} {Q : Int32 → HP → Prop}  (hp : P_X9_released i1 i2 h Q) : MT yX9_released cX9_released 3 (some .int) rm_X9_released [.ref 78, .int i1, .int i2] gM SH (emb h) (pI Q) := by
  refine MT.of (by decide +kernel) (Nat.le_of_ble_eq_true rfl) (fun C hC hE => ?_)
  show SW C gM 0 [(0, .ref 78), (1, .int i1), (2, .int i2)] [] h
  unfold P_X9_released at hp
  refine x_aload_n hC dX9_released_0 (lm 0 rfl) ?_
  refine x_iload_n hC dX9_released_1 (lm 1 rfl) ?_
  refine s_callVi (avs := [.int i1]) (st := []) hC dX9_released_2 ml_9_171 mi_X9_isClass ty_78 rfl (t_X9_isClass  hp) (Nat.le_of_ble_eq_true rfl) ⟨rfl, rfl⟩ ⟨Nat.le_of_ble_eq_true rfl, Nat.le_of_ble_eq_true rfl⟩ (fun v_2 h_2 hp => ?_)
  refine x_if_eq (tgt := 38) hC dX9_released_5 (by decide) (fun hc => ?_) (fun hc => ?_)
  · have hp := hp.1 hc
    refine x_bipush hC dX9_released_38 bp_m101 ?_
    exact x_iret hC hE dX9_released_40 ⟨_, _, rfl, rfl, hp⟩
  · have hp := hp.2 hc
    refine x_iload_n hC dX9_released_8 (lm 2 rfl) ?_
    refine x_iconst hC dX9_released_9 ic_0 ?_
    refine x_aload_n hC dX9_released_10 (lm 0 rfl) ?_
    refine s_getR (r := 109) hC dX9_released_11 fk_9_101 ty_78 (fr_9_37 ty_78).1 ?_
    refine x_iload_n hC dX9_released_14 (lm 1 rfl) ?_
    obtain ⟨ho, hp⟩ := hp
    refine s_iald hC dX9_released_15 ((fr_9_37 ty_78).2) ho ?_
    refine x_iconst hC dX9_released_16 ic_1 ?_
    refine x_isub hC dX9_released_17 ?_
    refine s_callSi (avs := [.int i2, .int 0, .int ((h_2.1 109 i1.toNatClampNeg) - 1)]) (st := []) hC dX9_released_18 ml_9_123 ms_X9_within rfl (t_X9_within  hp) (Nat.le_of_ble_eq_true rfl) ⟨rfl, rfl⟩ ⟨Nat.le_of_ble_eq_true rfl, Nat.le_of_ble_eq_true rfl⟩ (fun v_18 h_18 hp => ?_)
    refine x_if_eq (tgt := 38) hC dX9_released_21 (by decide) (fun hc => ?_) (fun hc => ?_)
    · have hp := hp.1 hc
      refine x_bipush hC dX9_released_38 bp_m101 ?_
      exact x_iret hC hE dX9_released_40 ⟨_, _, rfl, rfl, hp⟩
    · have hp := hp.2 hc
      refine x_aload_n hC dX9_released_24 (lm 0 rfl) ?_
      refine s_getR (r := 110) hC dX9_released_25 fk_9_104 ty_78 (fr_9_38 ty_78).1 ?_
      refine x_bipush hC dX9_released_28 bp_10 ?_
      refine x_iload_n hC dX9_released_30 (lm 1 rfl) ?_
      refine x_imul hC dX9_released_31 ?_
      refine x_iload_n hC dX9_released_32 (lm 2 rfl) ?_
      refine x_iadd hC dX9_released_33 ?_
      obtain ⟨ho, hp⟩ := hp
      refine s_iald hC dX9_released_34 ((fr_9_38 ty_78).2) ho ?_
      refine x_goto (tgt := 40) hC dX9_released_35 (by decide) ?_
      exact x_iret hC hE dX9_released_40 ⟨_, _, rfl, rfl, hp⟩
theorem dX9_underNow_0 : decode cX9_underNow 0 = .ok (.bipush 8, 2) := by decide +kernel
theorem dX9_underNow_2 : decode cX9_underNow 2 = .ok (.iload_n 1, 1) := by decide +kernel
theorem dX9_underNow_3 : decode cX9_underNow 3 = .ok (.imul, 1) := by decide +kernel
theorem dX9_underNow_4 : decode cX9_underNow 4 = .ok (.istore_n 3, 1) := by decide +kernel
theorem dX9_underNow_5 : decode cX9_underNow 5 = .ok (.iload_n 2, 1) := by decide +kernel
theorem dX9_underNow_6 : decode cX9_underNow 6 = .ok (.tableswitch 78 0 4 #[34, 41, 50, 60, 69], 34) := by decide +kernel
theorem dX9_underNow_40 : decode cX9_underNow 40 = .ok (.aload_n 0, 1) := by decide +kernel
theorem dX9_underNow_41 : decode cX9_underNow 41 = .ok (.getfield 107, 3) := by decide +kernel
theorem dX9_underNow_44 : decode cX9_underNow 44 = .ok (.iload_n 3, 1) := by decide +kernel
theorem dX9_underNow_45 : decode cX9_underNow 45 = .ok (.iaload, 1) := by decide +kernel
theorem dX9_underNow_46 : decode cX9_underNow 46 = .ok (.ireturn, 1) := by decide +kernel
theorem dX9_underNow_47 : decode cX9_underNow 47 = .ok (.aload_n 0, 1) := by decide +kernel
theorem dX9_underNow_48 : decode cX9_underNow 48 = .ok (.getfield 107, 3) := by decide +kernel
theorem dX9_underNow_51 : decode cX9_underNow 51 = .ok (.iload_n 3, 1) := by decide +kernel
theorem dX9_underNow_52 : decode cX9_underNow 52 = .ok (.iconst 1, 1) := by decide +kernel
theorem dX9_underNow_53 : decode cX9_underNow 53 = .ok (.iadd, 1) := by decide +kernel
theorem dX9_underNow_54 : decode cX9_underNow 54 = .ok (.iaload, 1) := by decide +kernel
theorem dX9_underNow_55 : decode cX9_underNow 55 = .ok (.ireturn, 1) := by decide +kernel
theorem dX9_underNow_56 : decode cX9_underNow 56 = .ok (.aload_n 0, 1) := by decide +kernel
theorem dX9_underNow_57 : decode cX9_underNow 57 = .ok (.getfield 107, 3) := by decide +kernel
theorem dX9_underNow_60 : decode cX9_underNow 60 = .ok (.iload_n 3, 1) := by decide +kernel
theorem dX9_underNow_61 : decode cX9_underNow 61 = .ok (.bipush 7, 2) := by decide +kernel
theorem dX9_underNow_63 : decode cX9_underNow 63 = .ok (.iadd, 1) := by decide +kernel
theorem dX9_underNow_64 : decode cX9_underNow 64 = .ok (.iaload, 1) := by decide +kernel
theorem dX9_underNow_65 : decode cX9_underNow 65 = .ok (.ireturn, 1) := by decide +kernel
theorem dX9_underNow_66 : decode cX9_underNow 66 = .ok (.aload_n 0, 1) := by decide +kernel
theorem dX9_underNow_67 : decode cX9_underNow 67 = .ok (.getfield 107, 3) := by decide +kernel
theorem dX9_underNow_70 : decode cX9_underNow 70 = .ok (.iload_n 3, 1) := by decide +kernel
theorem dX9_underNow_71 : decode cX9_underNow 71 = .ok (.iconst 2, 1) := by decide +kernel
theorem dX9_underNow_72 : decode cX9_underNow 72 = .ok (.iadd, 1) := by decide +kernel
theorem dX9_underNow_73 : decode cX9_underNow 73 = .ok (.iaload, 1) := by decide +kernel
theorem dX9_underNow_74 : decode cX9_underNow 74 = .ok (.ireturn, 1) := by decide +kernel
theorem dX9_underNow_75 : decode cX9_underNow 75 = .ok (.aload_n 0, 1) := by decide +kernel
theorem dX9_underNow_76 : decode cX9_underNow 76 = .ok (.getfield 107, 3) := by decide +kernel
theorem dX9_underNow_79 : decode cX9_underNow 79 = .ok (.iload_n 3, 1) := by decide +kernel
theorem dX9_underNow_80 : decode cX9_underNow 80 = .ok (.iconst 3, 1) := by decide +kernel
theorem dX9_underNow_81 : decode cX9_underNow 81 = .ok (.iadd, 1) := by decide +kernel
theorem dX9_underNow_82 : decode cX9_underNow 82 = .ok (.iaload, 1) := by decide +kernel
theorem dX9_underNow_83 : decode cX9_underNow 83 = .ok (.ireturn, 1) := by decide +kernel
theorem dX9_underNow_84 : decode cX9_underNow 84 = .ok (.aload_n 0, 1) := by decide +kernel
theorem dX9_underNow_85 : decode cX9_underNow 85 = .ok (.getfield 107, 3) := by decide +kernel
theorem dX9_underNow_88 : decode cX9_underNow 88 = .ok (.iload_n 3, 1) := by decide +kernel
theorem dX9_underNow_89 : decode cX9_underNow 89 = .ok (.iconst 4, 1) := by decide +kernel
theorem dX9_underNow_90 : decode cX9_underNow 90 = .ok (.iadd, 1) := by decide +kernel
theorem dX9_underNow_91 : decode cX9_underNow 91 = .ok (.iaload, 1) := by decide +kernel
theorem dX9_underNow_92 : decode cX9_underNow 92 = .ok (.ireturn, 1) := by decide +kernel
abbrev rm_X9_underNow : Room := { frames := 0, cells := 0, slots := 0, locals := 0 }
def P_X9_underNow (i1 : Int32) (i2 : Int32) (h : HP) (Q : Int32 → HP → Prop) : Prop := (i2.toInt = 0 → ((vp_in (8 * i1) 128) ∧ (Q (h.1 111 (8 * i1).toNatClampNeg) h))) ∧ (i2.toInt = 1 → ((vp_in ((8 * i1) + 1) 128) ∧ (Q (h.1 111 ((8 * i1) + 1).toNatClampNeg) h))) ∧ (i2.toInt = 2 → ((vp_in ((8 * i1) + 7) 128) ∧ (Q (h.1 111 ((8 * i1) + 7).toNatClampNeg) h))) ∧ (i2.toInt = 3 → ((vp_in ((8 * i1) + 2) 128) ∧ (Q (h.1 111 ((8 * i1) + 2).toNatClampNeg) h))) ∧ (i2.toInt = 4 → ((vp_in ((8 * i1) + 3) 128) ∧ (Q (h.1 111 ((8 * i1) + 3).toNatClampNeg) h))) ∧ ((i2.toInt < 0 ∨ 4 < i2.toInt) → ((vp_in ((8 * i1) + 4) 128) ∧ (Q (h.1 111 ((8 * i1) + 4).toNatClampNeg) h)))
set_option maxHeartbeats 4000000 in
theorem t_X9_underNow {i1 : Int32} {i2 : Int32} {h : HP} {Q : Int32 → HP → Prop}  (hp : P_X9_underNow i1 i2 h Q) : MT yX9_underNow cX9_underNow 4 (some .int) rm_X9_underNow [.ref 78, .int i1, .int i2] gM SH (emb h) (pI Q) := by
  refine MT.of (by decide +kernel) (Nat.le_of_ble_eq_true rfl) (fun C hC hE => ?_)
  show SW C gM 0 [(0, .ref 78), (1, .int i1), (2, .int i2)] [] h
  unfold P_X9_underNow at hp
  refine x_bipush hC dX9_underNow_0 bp_8 ?_
  refine x_iload_n hC dX9_underNow_2 (lm 1 rfl) ?_
  refine x_imul hC dX9_underNow_3 ?_
  refine x_istore_n (lv' := [(3, .int (8 * i1)), (0, .ref 78), (1, .int i1), (2, .int i2)]) hC dX9_underNow_4 (by decide) rfl ?_
  refine x_iload_n hC dX9_underNow_5 (lm 3 rfl) ?_
  refine x_tsw (tgt := 84) hC dX9_underNow_6 [40, 47, 56, 66, 75] (by decide) (by decide) (by decide) (fun hc => ?_) (fun i t hi hx => ?_)
  · have hp := hp.2.2.2.2.2 hc
    refine x_aload_n hC dX9_underNow_84 (lm 1 rfl) ?_
    refine s_getR (r := 111) hC dX9_underNow_85 fk_9_107 ty_78 (fr_9_40 ty_78).1 ?_
    refine x_iload_n hC dX9_underNow_88 (lm 0 rfl) ?_
    refine x_iconst hC dX9_underNow_89 ic_4 ?_
    refine x_iadd hC dX9_underNow_90 ?_
    obtain ⟨ho, hp⟩ := hp
    refine s_iald hC dX9_underNow_91 ((fr_9_40 ty_78).2) ho ?_
    exact x_iret hC hE dX9_underNow_92 ⟨_, _, rfl, rfl, hp⟩
  · match i, hi, hx with
    | 0, hi, hx =>
      cases hi
      have hp := hp.1 hx
      refine x_aload_n hC dX9_underNow_40 (lm 1 rfl) ?_
      refine s_getR (r := 111) hC dX9_underNow_41 fk_9_107 ty_78 (fr_9_40 ty_78).1 ?_
      refine x_iload_n hC dX9_underNow_44 (lm 0 rfl) ?_
      obtain ⟨ho, hp⟩ := hp
      refine s_iald hC dX9_underNow_45 ((fr_9_40 ty_78).2) ho ?_
      exact x_iret hC hE dX9_underNow_46 ⟨_, _, rfl, rfl, hp⟩
    | 1, hi, hx =>
      cases hi
      have hp := hp.2.1 hx
      refine x_aload_n hC dX9_underNow_47 (lm 1 rfl) ?_
      refine s_getR (r := 111) hC dX9_underNow_48 fk_9_107 ty_78 (fr_9_40 ty_78).1 ?_
      refine x_iload_n hC dX9_underNow_51 (lm 0 rfl) ?_
      refine x_iconst hC dX9_underNow_52 ic_1 ?_
      refine x_iadd hC dX9_underNow_53 ?_
      obtain ⟨ho, hp⟩ := hp
      refine s_iald hC dX9_underNow_54 ((fr_9_40 ty_78).2) ho ?_
      exact x_iret hC hE dX9_underNow_55 ⟨_, _, rfl, rfl, hp⟩
    | 2, hi, hx =>
      cases hi
      have hp := hp.2.2.1 hx
      refine x_aload_n hC dX9_underNow_56 (lm 1 rfl) ?_
      refine s_getR (r := 111) hC dX9_underNow_57 fk_9_107 ty_78 (fr_9_40 ty_78).1 ?_
      refine x_iload_n hC dX9_underNow_60 (lm 0 rfl) ?_
      refine x_bipush hC dX9_underNow_61 bp_7 ?_
      refine x_iadd hC dX9_underNow_63 ?_
      obtain ⟨ho, hp⟩ := hp
      refine s_iald hC dX9_underNow_64 ((fr_9_40 ty_78).2) ho ?_
      exact x_iret hC hE dX9_underNow_65 ⟨_, _, rfl, rfl, hp⟩
    | 3, hi, hx =>
      cases hi
      have hp := hp.2.2.2.1 hx
      refine x_aload_n hC dX9_underNow_66 (lm 1 rfl) ?_
      refine s_getR (r := 111) hC dX9_underNow_67 fk_9_107 ty_78 (fr_9_40 ty_78).1 ?_
      refine x_iload_n hC dX9_underNow_70 (lm 0 rfl) ?_
      refine x_iconst hC dX9_underNow_71 ic_2 ?_
      refine x_iadd hC dX9_underNow_72 ?_
      obtain ⟨ho, hp⟩ := hp
      refine s_iald hC dX9_underNow_73 ((fr_9_40 ty_78).2) ho ?_
      exact x_iret hC hE dX9_underNow_74 ⟨_, _, rfl, rfl, hp⟩
    | 4, hi, hx =>
      cases hi
      have hp := hp.2.2.2.2.1 hx
      refine x_aload_n hC dX9_underNow_75 (lm 1 rfl) ?_
      refine s_getR (r := 111) hC dX9_underNow_76 fk_9_107 ty_78 (fr_9_40 ty_78).1 ?_
      refine x_iload_n hC dX9_underNow_79 (lm 0 rfl) ?_
      refine x_iconst hC dX9_underNow_80 ic_3 ?_
      refine x_iadd hC dX9_underNow_81 ?_
      obtain ⟨ho, hp⟩ := hp
      refine s_iald hC dX9_underNow_82 ((fr_9_40 ty_78).2) ho ?_
      exact x_iret hC hE dX9_underNow_83 ⟨_, _, rfl, rfl, hp⟩
    | i + 5, hi, hx => exact absurd hi (by simp)
theorem dX9_under_0 : decode cX9_under 0 = .ok (.aload_n 0, 1) := by decide +kernel
theorem dX9_under_1 : decode cX9_under 1 = .ok (.iload_n 1, 1) := by decide +kernel
theorem dX9_under_2 : decode cX9_under 2 = .ok (.invokevirtual 278, 3) := by decide +kernel
theorem dX9_under_5 : decode cX9_under 5 = .ok (.ifCond .ne 8, 3) := by decide +kernel
theorem dX9_under_8 : decode cX9_under 8 = .ok (.bipush (-101), 2) := by decide +kernel
theorem dX9_under_10 : decode cX9_under 10 = .ok (.goto 23, 3) := by decide +kernel
theorem dX9_under_13 : decode cX9_under 13 = .ok (.iload_n 2, 1) := by decide +kernel
theorem dX9_under_14 : decode cX9_under 14 = .ok (.iconst 0, 1) := by decide +kernel
theorem dX9_under_15 : decode cX9_under 15 = .ok (.iconst 5, 1) := by decide +kernel
theorem dX9_under_16 : decode cX9_under 16 = .ok (.invokestatic 123, 3) := by decide +kernel
theorem dX9_under_19 : decode cX9_under 19 = .ok (.ifCond .eq 12, 3) := by decide +kernel
theorem dX9_under_22 : decode cX9_under 22 = .ok (.aload_n 0, 1) := by decide +kernel
theorem dX9_under_23 : decode cX9_under 23 = .ok (.iload_n 1, 1) := by decide +kernel
theorem dX9_under_24 : decode cX9_under 24 = .ok (.iload_n 2, 1) := by decide +kernel
theorem dX9_under_25 : decode cX9_under 25 = .ok (.invokevirtual 309, 3) := by decide +kernel
theorem dX9_under_28 : decode cX9_under 28 = .ok (.goto 5, 3) := by decide +kernel
theorem dX9_under_31 : decode cX9_under 31 = .ok (.bipush (-102), 2) := by decide +kernel
theorem dX9_under_33 : decode cX9_under 33 = .ok (.ireturn, 1) := by decide +kernel
abbrev rm_X9_under : Room := { frames := 2, cells := 0, slots := 0, locals := 43 }
def P_X9_under (i1 : Int32) (i2 : Int32) (h : HP) (Q : Int32 → HP → Prop) : Prop := P_X9_isLetter i1 h (fun (v_2 : Int32) (h_2 : HP) => ((¬ v_2 = 0) → (P_X9_within i2 0 5 h_2 (fun (v_16 : Int32) (h_16 : HP) => ((v_16 = 0) → (Q (-102) h_16)) ∧ ((¬ v_16 = 0) → (P_X9_underNow i1 i2 h_16 (fun (v_25 : Int32) (h_25 : HP) => Q v_25 h_25)))))) ∧ ((v_2 = 0) → (Q (-101) h_2)))
set_option maxHeartbeats 4000000 in
theorem t_X9_under {i1 : Int32} {i2 : Int32} {h : HP} {Q : Int32 → HP → Prop}  (hp : P_X9_under i1 i2 h Q) : MT yX9_under cX9_under 3 (some .int) rm_X9_under [.ref 78, .int i1, .int i2] gM SH (emb h) (pI Q) := by
  refine MT.of (by decide +kernel) (Nat.le_of_ble_eq_true rfl) (fun C hC hE => ?_)
  show SW C gM 0 [(0, .ref 78), (1, .int i1), (2, .int i2)] [] h
  unfold P_X9_under at hp
  refine x_aload_n hC dX9_under_0 (lm 0 rfl) ?_
  refine x_iload_n hC dX9_under_1 (lm 1 rfl) ?_
  refine s_callVi (avs := [.int i1]) (st := []) hC dX9_under_2 ml_9_278 mi_X9_isLetter ty_78 rfl (t_X9_isLetter  hp) (Nat.le_of_ble_eq_true rfl) ⟨rfl, rfl⟩ ⟨Nat.le_of_ble_eq_true rfl, Nat.le_of_ble_eq_true rfl⟩ (fun v_2 h_2 hp => ?_)
  refine x_if_ne (tgt := 13) hC dX9_under_5 (by decide) (fun hc => ?_) (fun hc => ?_)
  · have hp := hp.1 hc
    refine x_iload_n hC dX9_under_13 (lm 2 rfl) ?_
    refine x_iconst hC dX9_under_14 ic_0 ?_
    refine x_iconst hC dX9_under_15 ic_5 ?_
    refine s_callSi (avs := [.int i2, .int 0, .int 5]) (st := []) hC dX9_under_16 ml_9_123 ms_X9_within rfl (t_X9_within  hp) (Nat.le_of_ble_eq_true rfl) ⟨rfl, rfl⟩ ⟨Nat.le_of_ble_eq_true rfl, Nat.le_of_ble_eq_true rfl⟩ (fun v_16 h_16 hp => ?_)
    refine x_if_eq (tgt := 31) hC dX9_under_19 (by decide) (fun hc => ?_) (fun hc => ?_)
    · have hp := hp.1 hc
      refine x_bipush hC dX9_under_31 bp_m102 ?_
      exact x_iret hC hE dX9_under_33 ⟨_, _, rfl, rfl, hp⟩
    · have hp := hp.2 hc
      refine x_aload_n hC dX9_under_22 (lm 0 rfl) ?_
      refine x_iload_n hC dX9_under_23 (lm 1 rfl) ?_
      refine x_iload_n hC dX9_under_24 (lm 2 rfl) ?_
      refine s_callVi (avs := [.int i1, .int i2]) (st := []) hC dX9_under_25 ml_9_309 mi_X9_underNow ty_78 rfl (t_X9_underNow  hp) (Nat.le_of_ble_eq_true rfl) ⟨rfl, rfl⟩ ⟨Nat.le_of_ble_eq_true rfl, Nat.le_of_ble_eq_true rfl⟩ (fun v_25 h_25 hp => ?_)
      refine x_goto (tgt := 33) hC dX9_under_28 (by decide) ?_
      exact x_iret hC hE dX9_under_33 ⟨_, _, rfl, rfl, hp⟩
  · have hp := hp.2 hc
    refine x_bipush hC dX9_under_8 bp_m101 ?_
    refine x_goto (tgt := 33) hC dX9_under_10 (by decide) ?_
    exact x_iret hC hE dX9_under_33 ⟨_, _, rfl, rfl, hp⟩
theorem dX9_frame_0 : decode cX9_frame 0 = .ok (.aload_n 0, 1) := by decide +kernel
theorem dX9_frame_1 : decode cX9_frame 1 = .ok (.iload_n 1, 1) := by decide +kernel
theorem dX9_frame_2 : decode cX9_frame 2 = .ok (.invokevirtual 278, 3) := by decide +kernel
theorem dX9_frame_5 : decode cX9_frame 5 = .ok (.ifCond .eq 25, 3) := by decide +kernel
theorem dX9_frame_8 : decode cX9_frame 8 = .ok (.iload_n 2, 1) := by decide +kernel
theorem dX9_frame_9 : decode cX9_frame 9 = .ok (.iconst 0, 1) := by decide +kernel
theorem dX9_frame_10 : decode cX9_frame 10 = .ok (.aload_n 0, 1) := by decide +kernel
theorem dX9_frame_11 : decode cX9_frame 11 = .ok (.getfield 107, 3) := by decide +kernel
theorem dX9_frame_14 : decode cX9_frame 14 = .ok (.bipush 8, 2) := by decide +kernel
theorem dX9_frame_16 : decode cX9_frame 16 = .ok (.iload_n 1, 1) := by decide +kernel
theorem dX9_frame_17 : decode cX9_frame 17 = .ok (.imul, 1) := by decide +kernel
theorem dX9_frame_18 : decode cX9_frame 18 = .ok (.bipush 7, 2) := by decide +kernel
theorem dX9_frame_20 : decode cX9_frame 20 = .ok (.iadd, 1) := by decide +kernel
theorem dX9_frame_21 : decode cX9_frame 21 = .ok (.iaload, 1) := by decide +kernel
theorem dX9_frame_22 : decode cX9_frame 22 = .ok (.iconst 1, 1) := by decide +kernel
theorem dX9_frame_23 : decode cX9_frame 23 = .ok (.isub, 1) := by decide +kernel
theorem dX9_frame_24 : decode cX9_frame 24 = .ok (.invokestatic 123, 3) := by decide +kernel
theorem dX9_frame_27 : decode cX9_frame 27 = .ok (.ifCond .ne 6, 3) := by decide +kernel
theorem dX9_frame_30 : decode cX9_frame 30 = .ok (.bipush (-101), 2) := by decide +kernel
theorem dX9_frame_32 : decode cX9_frame 32 = .ok (.ireturn, 1) := by decide +kernel
theorem dX9_frame_33 : decode cX9_frame 33 = .ok (.iload_n 3, 1) := by decide +kernel
theorem dX9_frame_34 : decode cX9_frame 34 = .ok (.iconst 0, 1) := by decide +kernel
theorem dX9_frame_35 : decode cX9_frame 35 = .ok (.iconst 3, 1) := by decide +kernel
theorem dX9_frame_36 : decode cX9_frame 36 = .ok (.invokestatic 123, 3) := by decide +kernel
theorem dX9_frame_39 : decode cX9_frame 39 = .ok (.ifCond .eq 21, 3) := by decide +kernel
theorem dX9_frame_42 : decode cX9_frame 42 = .ok (.aload_n 0, 1) := by decide +kernel
theorem dX9_frame_43 : decode cX9_frame 43 = .ok (.getfield 110, 3) := by decide +kernel
theorem dX9_frame_46 : decode cX9_frame 46 = .ok (.bipush 32, 2) := by decide +kernel
theorem dX9_frame_48 : decode cX9_frame 48 = .ok (.iload_n 1, 1) := by decide +kernel
theorem dX9_frame_49 : decode cX9_frame 49 = .ok (.imul, 1) := by decide +kernel
theorem dX9_frame_50 : decode cX9_frame 50 = .ok (.iconst 4, 1) := by decide +kernel
theorem dX9_frame_51 : decode cX9_frame 51 = .ok (.iload_n 2, 1) := by decide +kernel
theorem dX9_frame_52 : decode cX9_frame 52 = .ok (.imul, 1) := by decide +kernel
theorem dX9_frame_53 : decode cX9_frame 53 = .ok (.iadd, 1) := by decide +kernel
theorem dX9_frame_54 : decode cX9_frame 54 = .ok (.iload_n 3, 1) := by decide +kernel
theorem dX9_frame_55 : decode cX9_frame 55 = .ok (.iadd, 1) := by decide +kernel
theorem dX9_frame_56 : decode cX9_frame 56 = .ok (.iaload, 1) := by decide +kernel
theorem dX9_frame_57 : decode cX9_frame 57 = .ok (.goto 5, 3) := by decide +kernel
theorem dX9_frame_60 : decode cX9_frame 60 = .ok (.bipush (-102), 2) := by decide +kernel
theorem dX9_frame_62 : decode cX9_frame 62 = .ok (.ireturn, 1) := by decide +kernel
abbrev rm_X9_frame : Room := { frames := 2, cells := 0, slots := 0, locals := 43 }
def P_X9_frame (i1 : Int32) (i2 : Int32) (i3 : Int32) (h : HP) (Q : Int32 → HP → Prop) : Prop := P_X9_isLetter i1 h (fun (v_2 : Int32) (h_2 : HP) => ((v_2 = 0) → (Q (-101) h_2)) ∧ ((¬ v_2 = 0) → ((vp_in ((8 * i1) + 7) 128) ∧ (P_X9_within i2 0 ((h_2.1 111 ((8 * i1) + 7).toNatClampNeg) - 1) h_2 (fun (v_24 : Int32) (h_24 : HP) => ((¬ v_24 = 0) → (P_X9_within i3 0 3 h_24 (fun (v_36 : Int32) (h_36 : HP) => ((v_36 = 0) → (Q (-102) h_36)) ∧ ((¬ v_36 = 0) → ((vp_in (((32 * i1) + (4 * i2)) + i3) 512) ∧ (Q (h_36.1 112 (((32 * i1) + (4 * i2)) + i3).toNatClampNeg) h_36)))))) ∧ ((v_24 = 0) → (Q (-101) h_24)))))))
set_option maxHeartbeats 4000000 in
theorem t_X9_frame {i1 : Int32} {i2 : Int32} {i3 : Int32} {h : HP} {Q : Int32 → HP → Prop}  (hp : P_X9_frame i1 i2 i3 h Q) : MT yX9_frame cX9_frame 4 (some .int) rm_X9_frame [.ref 78, .int i1, .int i2, .int i3] gM SH (emb h) (pI Q) := by
  refine MT.of (by decide +kernel) (Nat.le_of_ble_eq_true rfl) (fun C hC hE => ?_)
  show SW C gM 0 [(0, .ref 78), (1, .int i1), (2, .int i2), (3, .int i3)] [] h
  unfold P_X9_frame at hp
  refine x_aload_n hC dX9_frame_0 (lm 0 rfl) ?_
  refine x_iload_n hC dX9_frame_1 (lm 1 rfl) ?_
  refine s_callVi (avs := [.int i1]) (st := []) hC dX9_frame_2 ml_9_278 mi_X9_isLetter ty_78 rfl (t_X9_isLetter  hp) (Nat.le_of_ble_eq_true rfl) ⟨rfl, rfl⟩ ⟨Nat.le_of_ble_eq_true rfl, Nat.le_of_ble_eq_true rfl⟩ (fun v_2 h_2 hp => ?_)
  refine x_if_eq (tgt := 30) hC dX9_frame_5 (by decide) (fun hc => ?_) (fun hc => ?_)
  · have hp := hp.1 hc
    refine x_bipush hC dX9_frame_30 bp_m101 ?_
    exact x_iret hC hE dX9_frame_32 ⟨_, _, rfl, rfl, hp⟩
  · have hp := hp.2 hc
    refine x_iload_n hC dX9_frame_8 (lm 2 rfl) ?_
    refine x_iconst hC dX9_frame_9 ic_0 ?_
    refine x_aload_n hC dX9_frame_10 (lm 0 rfl) ?_
    refine s_getR (r := 111) hC dX9_frame_11 fk_9_107 ty_78 (fr_9_40 ty_78).1 ?_
    refine x_bipush hC dX9_frame_14 bp_8 ?_
    refine x_iload_n hC dX9_frame_16 (lm 1 rfl) ?_
    refine x_imul hC dX9_frame_17 ?_
    refine x_bipush hC dX9_frame_18 bp_7 ?_
    refine x_iadd hC dX9_frame_20 ?_
    obtain ⟨ho, hp⟩ := hp
    refine s_iald hC dX9_frame_21 ((fr_9_40 ty_78).2) ho ?_
    refine x_iconst hC dX9_frame_22 ic_1 ?_
    refine x_isub hC dX9_frame_23 ?_
    refine s_callSi (avs := [.int i2, .int 0, .int ((h_2.1 111 ((8 * i1) + 7).toNatClampNeg) - 1)]) (st := []) hC dX9_frame_24 ml_9_123 ms_X9_within rfl (t_X9_within  hp) (Nat.le_of_ble_eq_true rfl) ⟨rfl, rfl⟩ ⟨Nat.le_of_ble_eq_true rfl, Nat.le_of_ble_eq_true rfl⟩ (fun v_24 h_24 hp => ?_)
    refine x_if_ne (tgt := 33) hC dX9_frame_27 (by decide) (fun hc => ?_) (fun hc => ?_)
    · have hp := hp.1 hc
      refine x_iload_n hC dX9_frame_33 (lm 3 rfl) ?_
      refine x_iconst hC dX9_frame_34 ic_0 ?_
      refine x_iconst hC dX9_frame_35 ic_3 ?_
      refine s_callSi (avs := [.int i3, .int 0, .int 3]) (st := []) hC dX9_frame_36 ml_9_123 ms_X9_within rfl (t_X9_within  hp) (Nat.le_of_ble_eq_true rfl) ⟨rfl, rfl⟩ ⟨Nat.le_of_ble_eq_true rfl, Nat.le_of_ble_eq_true rfl⟩ (fun v_36 h_36 hp => ?_)
      refine x_if_eq (tgt := 60) hC dX9_frame_39 (by decide) (fun hc => ?_) (fun hc => ?_)
      · have hp := hp.1 hc
        refine x_bipush hC dX9_frame_60 bp_m102 ?_
        exact x_iret hC hE dX9_frame_62 ⟨_, _, rfl, rfl, hp⟩
      · have hp := hp.2 hc
        refine x_aload_n hC dX9_frame_42 (lm 0 rfl) ?_
        refine s_getR (r := 112) hC dX9_frame_43 fk_9_110 ty_78 (fr_9_41 ty_78).1 ?_
        refine x_bipush hC dX9_frame_46 bp_32 ?_
        refine x_iload_n hC dX9_frame_48 (lm 1 rfl) ?_
        refine x_imul hC dX9_frame_49 ?_
        refine x_iconst hC dX9_frame_50 ic_4 ?_
        refine x_iload_n hC dX9_frame_51 (lm 2 rfl) ?_
        refine x_imul hC dX9_frame_52 ?_
        refine x_iadd hC dX9_frame_53 ?_
        refine x_iload_n hC dX9_frame_54 (lm 3 rfl) ?_
        refine x_iadd hC dX9_frame_55 ?_
        obtain ⟨ho, hp⟩ := hp
        refine s_iald hC dX9_frame_56 ((fr_9_41 ty_78).2) ho ?_
        refine x_goto (tgt := 62) hC dX9_frame_57 (by decide) ?_
        exact x_iret hC hE dX9_frame_62 ⟨_, _, rfl, rfl, hp⟩
    · have hp := hp.2 hc
      refine x_bipush hC dX9_frame_30 bp_m101 ?_
      exact x_iret hC hE dX9_frame_32 ⟨_, _, rfl, rfl, hp⟩
theorem dX9_howMany_0 : decode cX9_howMany 0 = .ok (.iload_n 1, 1) := by decide +kernel
theorem dX9_howMany_1 : decode cX9_howMany 1 = .ok (.tableswitch 42 7 9 #[27, 32, 37], 27) := by decide +kernel
theorem dX9_howMany_28 : decode cX9_howMany 28 = .ok (.aload_n 0, 1) := by decide +kernel
theorem dX9_howMany_29 : decode cX9_howMany 29 = .ok (.getfield 154, 3) := by decide +kernel
theorem dX9_howMany_32 : decode cX9_howMany 32 = .ok (.ireturn, 1) := by decide +kernel
theorem dX9_howMany_33 : decode cX9_howMany 33 = .ok (.aload_n 0, 1) := by decide +kernel
theorem dX9_howMany_34 : decode cX9_howMany 34 = .ok (.getfield 127, 3) := by decide +kernel
theorem dX9_howMany_37 : decode cX9_howMany 37 = .ok (.ireturn, 1) := by decide +kernel
theorem dX9_howMany_38 : decode cX9_howMany 38 = .ok (.aload_n 0, 1) := by decide +kernel
theorem dX9_howMany_39 : decode cX9_howMany 39 = .ok (.getfield 157, 3) := by decide +kernel
theorem dX9_howMany_42 : decode cX9_howMany 42 = .ok (.ireturn, 1) := by decide +kernel
theorem dX9_howMany_43 : decode cX9_howMany 43 = .ok (.iload_n 1, 1) := by decide +kernel
theorem dX9_howMany_44 : decode cX9_howMany 44 = .ok (.iconst 0, 1) := by decide +kernel
theorem dX9_howMany_45 : decode cX9_howMany 45 = .ok (.bipush 6, 2) := by decide +kernel
theorem dX9_howMany_47 : decode cX9_howMany 47 = .ok (.invokestatic 123, 3) := by decide +kernel
theorem dX9_howMany_50 : decode cX9_howMany 50 = .ok (.ifCond .eq 12, 3) := by decide +kernel
theorem dX9_howMany_53 : decode cX9_howMany 53 = .ok (.aload_n 0, 1) := by decide +kernel
theorem dX9_howMany_54 : decode cX9_howMany 54 = .ok (.getfield 13, 3) := by decide +kernel
theorem dX9_howMany_57 : decode cX9_howMany 57 = .ok (.iload_n 1, 1) := by decide +kernel
theorem dX9_howMany_58 : decode cX9_howMany 58 = .ok (.iaload, 1) := by decide +kernel
theorem dX9_howMany_59 : decode cX9_howMany 59 = .ok (.goto 5, 3) := by decide +kernel
theorem dX9_howMany_62 : decode cX9_howMany 62 = .ok (.bipush (-102), 2) := by decide +kernel
theorem dX9_howMany_64 : decode cX9_howMany 64 = .ok (.ireturn, 1) := by decide +kernel
abbrev rm_X9_howMany : Room := { frames := 1, cells := 0, slots := 0, locals := 22 }
def P_X9_howMany (i1 : Int32) (h : HP) (Q : Int32 → HP → Prop) : Prop := (i1.toInt = 7 → (Q (h.1 78 39) h)) ∧ (i1.toInt = 8 → (Q (h.1 78 6) h)) ∧ (i1.toInt = 9 → (Q (h.1 78 5) h)) ∧ ((i1.toInt < 7 ∨ 9 < i1.toInt) → (P_X9_within i1 0 6 h (fun (v_47 : Int32) (h_47 : HP) => ((v_47 = 0) → (Q (-102) h_47)) ∧ ((¬ v_47 = 0) → ((vp_in i1 7) ∧ (Q (h_47.1 80 i1.toNatClampNeg) h_47))))))
set_option maxHeartbeats 4000000 in
theorem t_X9_howMany {i1 : Int32} {h : HP} {Q : Int32 → HP → Prop}  (hp : P_X9_howMany i1 h Q) : MT yX9_howMany cX9_howMany 2 (some .int) rm_X9_howMany [.ref 78, .int i1] gM SH (emb h) (pI Q) := by
  refine MT.of (by decide +kernel) (Nat.le_of_ble_eq_true rfl) (fun C hC hE => ?_)
  show SW C gM 0 [(0, .ref 78), (1, .int i1)] [] h
  unfold P_X9_howMany at hp
  refine x_iload_n hC dX9_howMany_0 (lm 1 rfl) ?_
  refine x_tsw (tgt := 43) hC dX9_howMany_1 [28, 33, 38] (by decide) (by decide) (by decide) (fun hc => ?_) (fun i t hi hx => ?_)
  · have hp := hp.2.2.2 hc
    refine x_iload_n hC dX9_howMany_43 (lm 1 rfl) ?_
    refine x_iconst hC dX9_howMany_44 ic_0 ?_
    refine x_bipush hC dX9_howMany_45 bp_6 ?_
    refine s_callSi (avs := [.int i1, .int 0, .int 6]) (st := []) hC dX9_howMany_47 ml_9_123 ms_X9_within rfl (t_X9_within  hp) (Nat.le_of_ble_eq_true rfl) ⟨rfl, rfl⟩ ⟨Nat.le_of_ble_eq_true rfl, Nat.le_of_ble_eq_true rfl⟩ (fun v_47 h_47 hp => ?_)
    refine x_if_eq (tgt := 62) hC dX9_howMany_50 (by decide) (fun hc => ?_) (fun hc => ?_)
    · have hp := hp.1 hc
      refine x_bipush hC dX9_howMany_62 bp_m102 ?_
      exact x_iret hC hE dX9_howMany_64 ⟨_, _, rfl, rfl, hp⟩
    · have hp := hp.2 hc
      refine x_aload_n hC dX9_howMany_53 (lm 0 rfl) ?_
      refine s_getR (r := 80) hC dX9_howMany_54 fk_9_13 ty_78 (fr_9_8 ty_78).1 ?_
      refine x_iload_n hC dX9_howMany_57 (lm 1 rfl) ?_
      obtain ⟨ho, hp⟩ := hp
      refine s_iald hC dX9_howMany_58 ((fr_9_8 ty_78).2) ho ?_
      refine x_goto (tgt := 64) hC dX9_howMany_59 (by decide) ?_
      exact x_iret hC hE dX9_howMany_64 ⟨_, _, rfl, rfl, hp⟩
  · match i, hi, hx with
    | 0, hi, hx =>
      cases hi
      have hp := hp.1 hx
      refine x_aload_n hC dX9_howMany_28 (lm 0 rfl) ?_
      refine s_getI hC dX9_howMany_29 fk_9_154 ty_78 ?_
      exact x_iret hC hE dX9_howMany_32 ⟨_, _, rfl, rfl, hp⟩
    | 1, hi, hx =>
      cases hi
      have hp := hp.2.1 hx
      refine x_aload_n hC dX9_howMany_33 (lm 0 rfl) ?_
      refine s_getI hC dX9_howMany_34 fk_9_127 ty_78 ?_
      exact x_iret hC hE dX9_howMany_37 ⟨_, _, rfl, rfl, hp⟩
    | 2, hi, hx =>
      cases hi
      have hp := hp.2.2.1 hx
      refine x_aload_n hC dX9_howMany_38 (lm 0 rfl) ?_
      refine s_getI hC dX9_howMany_39 fk_9_157 ty_78 ?_
      exact x_iret hC hE dX9_howMany_42 ⟨_, _, rfl, rfl, hp⟩
    | i + 3, hi, hx => exact absurd hi (by simp)
theorem dX9_count_0 : decode cX9_count 0 = .ok (.aload_n 0, 1) := by decide +kernel
theorem dX9_count_1 : decode cX9_count 1 = .ok (.iload_n 1, 1) := by decide +kernel
theorem dX9_count_2 : decode cX9_count 2 = .ok (.invokevirtual 312, 3) := by decide +kernel
theorem dX9_count_5 : decode cX9_count 5 = .ok (.ireturn, 1) := by decide +kernel
abbrev rm_X9_count : Room := { frames := 2, cells := 0, slots := 0, locals := 43 }
def P_X9_count (i1 : Int32) (h : HP) (Q : Int32 → HP → Prop) : Prop := P_X9_howMany i1 h (fun (v_2 : Int32) (h_2 : HP) => Q v_2 h_2)
set_option maxHeartbeats 4000000 in
theorem t_X9_count {i1 : Int32} {h : HP} {Q : Int32 → HP → Prop}  (hp : P_X9_count i1 h Q) : MT yX9_count cX9_count 2 (some .int) rm_X9_count [.ref 78, .int i1] gM SH (emb h) (pI Q) := by
  refine MT.of (by decide +kernel) (Nat.le_of_ble_eq_true rfl) (fun C hC hE => ?_)
  show SW C gM 0 [(0, .ref 78), (1, .int i1)] [] h
  unfold P_X9_count at hp
  refine x_aload_n hC dX9_count_0 (lm 0 rfl) ?_
  refine x_iload_n hC dX9_count_1 (lm 1 rfl) ?_
  refine s_callVi (avs := [.int i1]) (st := []) hC dX9_count_2 ml_9_312 mi_X9_howMany ty_78 rfl (t_X9_howMany  hp) (Nat.le_of_ble_eq_true rfl) ⟨rfl, rfl⟩ ⟨Nat.le_of_ble_eq_true rfl, Nat.le_of_ble_eq_true rfl⟩ (fun v_2 h_2 hp => ?_)
  exact x_iret hC hE dX9_count_5 ⟨_, _, rfl, rfl, hp⟩
theorem dX9_mix_0 : decode cX9_mix 0 = .ok (.aload_n 0, 1) := by decide +kernel
theorem dX9_mix_1 : decode cX9_mix 1 = .ok (.ldc2_w 315, 3) := by decide +kernel
theorem dX9_mix_4 : decode cX9_mix 4 = .ok (.aload_n 0, 1) := by decide +kernel
theorem dX9_mix_5 : decode cX9_mix 5 = .ok (.getfield 317, 3) := by decide +kernel
theorem dX9_mix_8 : decode cX9_mix 8 = .ok (.lmul, 1) := by decide +kernel
theorem dX9_mix_9 : decode cX9_mix 9 = .ok (.lload_n 1, 1) := by decide +kernel
theorem dX9_mix_10 : decode cX9_mix 10 = .ok (.ladd, 1) := by decide +kernel
theorem dX9_mix_11 : decode cX9_mix 11 = .ok (.putfield 317, 3) := by decide +kernel
theorem dX9_mix_14 : decode cX9_mix 14 = .ok (.return_, 1) := by decide +kernel
abbrev rm_X9_mix : Room := { frames := 0, cells := 0, slots := 0, locals := 0 }
def P_X9_mix (l1 : Int64) (h : HP) (Q : HP → Prop) : Prop := Q (sl h (((31 : Int64) * h.2.2) + l1))
set_option maxHeartbeats 4000000 in
theorem t_X9_mix {l1 : Int64} {h : HP} {Q : HP → Prop}  (hp : P_X9_mix l1 h Q) : MT yX9_mix cX9_mix 3 none rm_X9_mix [.ref 78, .long l1] gM SH (emb h) (pV Q) := by
  refine MT.of (by decide +kernel) (Nat.le_of_ble_eq_true rfl) (fun C hC hE => ?_)
  show SW C gM 0 [(0, .ref 78), (1, .long l1)] [] h
  unfold P_X9_mix at hp
  refine x_aload_n hC dX9_mix_0 (lm 0 rfl) ?_
  refine x_ldc2 hC dX9_mix_1 lc_9_315 ?_
  refine x_aload_n hC dX9_mix_4 (lm 0 rfl) ?_
  refine s_getL hC dX9_mix_5 fk_9_317 ty_78 ?_
  refine x_lmul hC dX9_mix_8 ?_
  refine x_lload_n hC dX9_mix_9 (lm 1 rfl) ?_
  refine x_ladd hC dX9_mix_10 ?_
  refine s_putL hC dX9_mix_11 fk_9_317 ty_78 ?_
  exact x_vret hC hE dX9_mix_14 ⟨_, rfl, rfl, hp⟩
theorem dX9_mixNear_0 : decode cX9_mixNear 0 = .ok (.iconst 0, 1) := by decide +kernel
theorem dX9_mixNear_1 : decode cX9_mixNear 1 = .ok (.istore_n 2, 1) := by decide +kernel
theorem dX9_mixNear_2 : decode cX9_mixNear 2 = .ok (.iload_n 2, 1) := by decide +kernel
theorem dX9_mixNear_3 : decode cX9_mixNear 3 = .ok (.bipush 10, 2) := by decide +kernel
theorem dX9_mixNear_5 : decode cX9_mixNear 5 = .ok (.if_icmp .ge 20, 3) := by decide +kernel
theorem dX9_mixNear_8 : decode cX9_mixNear 8 = .ok (.aload_n 0, 1) := by decide +kernel
theorem dX9_mixNear_9 : decode cX9_mixNear 9 = .ok (.aload_n 0, 1) := by decide +kernel
theorem dX9_mixNear_10 : decode cX9_mixNear 10 = .ok (.iload_n 1, 1) := by decide +kernel
theorem dX9_mixNear_11 : decode cX9_mixNear 11 = .ok (.iload_n 2, 1) := by decide +kernel
theorem dX9_mixNear_12 : decode cX9_mixNear 12 = .ok (.invokevirtual 296, 3) := by decide +kernel
theorem dX9_mixNear_15 : decode cX9_mixNear 15 = .ok (.i2l, 1) := by decide +kernel
theorem dX9_mixNear_16 : decode cX9_mixNear 16 = .ok (.invokevirtual 321, 3) := by decide +kernel
theorem dX9_mixNear_19 : decode cX9_mixNear 19 = .ok (.iinc 2 1, 3) := by decide +kernel
theorem dX9_mixNear_22 : decode cX9_mixNear 22 = .ok (.goto (-20), 3) := by decide +kernel
theorem dX9_mixNear_25 : decode cX9_mixNear 25 = .ok (.aload_n 0, 1) := by decide +kernel
theorem dX9_mixNear_26 : decode cX9_mixNear 26 = .ok (.iload_n 1, 1) := by decide +kernel
theorem dX9_mixNear_27 : decode cX9_mixNear 27 = .ok (.invokevirtual 182, 3) := by decide +kernel
theorem dX9_mixNear_30 : decode cX9_mixNear 30 = .ok (.ifCond .eq 21, 3) := by decide +kernel
theorem dX9_mixNear_33 : decode cX9_mixNear 33 = .ok (.aload_n 0, 1) := by decide +kernel
theorem dX9_mixNear_34 : decode cX9_mixNear 34 = .ok (.getfield 31, 3) := by decide +kernel
theorem dX9_mixNear_37 : decode cX9_mixNear 37 = .ok (.iload_n 1, 1) := by decide +kernel
theorem dX9_mixNear_38 : decode cX9_mixNear 38 = .ok (.iaload, 1) := by decide +kernel
theorem dX9_mixNear_39 : decode cX9_mixNear 39 = .ok (.aload_n 0, 1) := by decide +kernel
theorem dX9_mixNear_40 : decode cX9_mixNear 40 = .ok (.getfield 34, 3) := by decide +kernel
theorem dX9_mixNear_43 : decode cX9_mixNear 43 = .ok (.iload_n 1, 1) := by decide +kernel
theorem dX9_mixNear_44 : decode cX9_mixNear 44 = .ok (.iaload, 1) := by decide +kernel
theorem dX9_mixNear_45 : decode cX9_mixNear 45 = .ok (.invokestatic 119, 3) := by decide +kernel
theorem dX9_mixNear_48 : decode cX9_mixNear 48 = .ok (.goto 4, 3) := by decide +kernel
theorem dX9_mixNear_51 : decode cX9_mixNear 51 = .ok (.iconst 0, 1) := by decide +kernel
theorem dX9_mixNear_52 : decode cX9_mixNear 52 = .ok (.istore_n 2, 1) := by decide +kernel
theorem dX9_mixNear_53 : decode cX9_mixNear 53 = .ok (.iconst 0, 1) := by decide +kernel
theorem dX9_mixNear_54 : decode cX9_mixNear 54 = .ok (.istore_n 3, 1) := by decide +kernel
theorem dX9_mixNear_55 : decode cX9_mixNear 55 = .ok (.iload_n 3, 1) := by decide +kernel
theorem dX9_mixNear_56 : decode cX9_mixNear 56 = .ok (.iconst 5, 1) := by decide +kernel
theorem dX9_mixNear_57 : decode cX9_mixNear 57 = .ok (.iload_n 2, 1) := by decide +kernel
theorem dX9_mixNear_58 : decode cX9_mixNear 58 = .ok (.imul, 1) := by decide +kernel
theorem dX9_mixNear_59 : decode cX9_mixNear 59 = .ok (.if_icmp .ge 25, 3) := by decide +kernel
theorem dX9_mixNear_62 : decode cX9_mixNear 62 = .ok (.aload_n 0, 1) := by decide +kernel
theorem dX9_mixNear_63 : decode cX9_mixNear 63 = .ok (.aload_n 0, 1) := by decide +kernel
theorem dX9_mixNear_64 : decode cX9_mixNear 64 = .ok (.iload_n 1, 1) := by decide +kernel
theorem dX9_mixNear_65 : decode cX9_mixNear 65 = .ok (.iload_n 3, 1) := by decide +kernel
theorem dX9_mixNear_66 : decode cX9_mixNear 66 = .ok (.iconst 5, 1) := by decide +kernel
theorem dX9_mixNear_67 : decode cX9_mixNear 67 = .ok (.idiv, 1) := by decide +kernel
theorem dX9_mixNear_68 : decode cX9_mixNear 68 = .ok (.iload_n 3, 1) := by decide +kernel
theorem dX9_mixNear_69 : decode cX9_mixNear 69 = .ok (.iconst 5, 1) := by decide +kernel
theorem dX9_mixNear_70 : decode cX9_mixNear 70 = .ok (.irem, 1) := by decide +kernel
theorem dX9_mixNear_71 : decode cX9_mixNear 71 = .ok (.invokevirtual 299, 3) := by decide +kernel
theorem dX9_mixNear_74 : decode cX9_mixNear 74 = .ok (.i2l, 1) := by decide +kernel
theorem dX9_mixNear_75 : decode cX9_mixNear 75 = .ok (.invokevirtual 321, 3) := by decide +kernel
theorem dX9_mixNear_78 : decode cX9_mixNear 78 = .ok (.iinc 3 1, 3) := by decide +kernel
theorem dX9_mixNear_81 : decode cX9_mixNear 81 = .ok (.goto (-26), 3) := by decide +kernel
theorem dX9_mixNear_84 : decode cX9_mixNear 84 = .ok (.return_, 1) := by decide +kernel
abbrev rm_X9_mixNear : Room := { frames := 3, cells := 0, slots := 0, locals := 66 }
def P_X9_mixNear_j53 (_q0 : Nat) (i1 : Int32) (i2 : Int32) (h : HP)  (Q : HP → Prop) : Prop := Lp2 (fun X_55 (i3_55 : Int32) (h_55 : HP) => (((5 * i2) ≤ i3_55) → Q h_55) ∧ ((¬ (5 * i2) ≤ i3_55) → (P_X9_givenNow i1 (i3_55 / 5) (i3_55 - i3_55 / 5 * 5) h_55 (fun (v_71 : Int32) (h_71 : HP) => P_X9_mix v_71.toInt64 h_71 (fun (h_75 : HP) => X_55 (i3_55 + 1) h_75))))) 0 h
def P_X9_mixNear (i1 : Int32) (h : HP) (Q : HP → Prop) : Prop := Lp2 (fun X_2 (i2_2 : Int32) (h_2 : HP) => ((10 ≤ i2_2) → (P_X9_isOpen i1 h_2 (fun (v_27 : Int32) (h_27 : HP) => ((v_27 = 0) → P_X9_mixNear_j53 78 i1 0 h_27 Q) ∧ ((¬ v_27 = 0) → ((vp_in i1 4) ∧ ((vp_in i1 4) ∧ (P_X9_ahead (h_27.1 86 i1.toNatClampNeg) (h_27.1 87 i1.toNatClampNeg) h_27 (fun (v_45 : Int32) (h_45 : HP) => P_X9_mixNear_j53 78 i1 v_45 h_45 Q)))))))) ∧ ((¬ 10 ≤ i2_2) → (P_X9_nearNow i1 i2_2 h_2 (fun (v_12 : Int32) (h_12 : HP) => P_X9_mix v_12.toInt64 h_12 (fun (h_16 : HP) => X_2 (i2_2 + 1) h_16))))) 0 h
set_option maxHeartbeats 4000000 in
theorem l_X9_mixNear_j53 {i1 : Int32} {i2 : Int32} {h : HP}  {Q : HP → Prop} {C : Cx} (hC : xOk C cX9_mixNear yX9_mixNear.cls 4 rm_X9_mixNear none) (hE : xEnd C gM SH (pV Q))   (hp : P_X9_mixNear_j53 78 i1 i2 h  Q) : SW C gM 53 [(0, .ref 78), (1, .int i1), (2, .int i2)] [] h := by
  unfold P_X9_mixNear_j53 at hp
  refine x_iconst hC dX9_mixNear_53 ic_0 ?_
  refine x_istore_n (lv' := [(3, .int 0), (0, .ref 78), (1, .int i1), (2, .int i2)]) hC dX9_mixNear_54 (by decide) rfl ?_
  refine x_subk (lv' := [(0, .ref 78), (1, .int i1), (2, .int i2), (3, .int 0)]) [1, 2, 3, 0] rfl ?_
  refine hp (fun i3_55 h_55 => SW C gM 55 [(0, .ref 78), (1, .int i1), (2, .int i2), (3, .int i3_55)] [] h_55) (fun i3_55 h_55 hp => ?_)
  refine x_iload_n hC dX9_mixNear_55 (lm 3 rfl) ?_
  refine x_iconst hC dX9_mixNear_56 ic_5 ?_
  refine x_iload_n hC dX9_mixNear_57 (lm 2 rfl) ?_
  refine x_imul hC dX9_mixNear_58 ?_
  refine x_icmp_ge (tgt := 84) hC dX9_mixNear_59 (by decide) (fun hc => ?_) (fun hc => ?_)
  · have hp := hp.1 hc
    exact x_vret hC hE dX9_mixNear_84 ⟨_, rfl, rfl, hp⟩
  · have hp := hp.2 hc
    refine x_aload_n hC dX9_mixNear_62 (lm 0 rfl) ?_
    refine x_aload_n hC dX9_mixNear_63 (lm 0 rfl) ?_
    refine x_iload_n hC dX9_mixNear_64 (lm 1 rfl) ?_
    refine x_iload_n hC dX9_mixNear_65 (lm 3 rfl) ?_
    refine x_iconst hC dX9_mixNear_66 ic_5 ?_
    refine x_idiv hC dX9_mixNear_67 (by decide) ?_
    refine x_iload_n hC dX9_mixNear_68 (lm 3 rfl) ?_
    refine x_iconst hC dX9_mixNear_69 ic_5 ?_
    refine x_irem hC dX9_mixNear_70 (by decide) ?_
    refine s_callVi (avs := [.int i1, .int (i3_55 / 5), .int (i3_55 - i3_55 / 5 * 5)]) (st := [.ref 78]) hC dX9_mixNear_71 ml_9_299 mi_X9_givenNow ty_78 rfl (t_X9_givenNow  hp) (Nat.le_of_ble_eq_true rfl) ⟨rfl, rfl⟩ ⟨Nat.le_of_ble_eq_true rfl, Nat.le_of_ble_eq_true rfl⟩ (fun v_71 h_71 hp => ?_)
    refine x_i2l hC dX9_mixNear_74 ?_
    refine s_callVv (avs := [.long v_71.toInt64]) (st := []) hC dX9_mixNear_75 ml_9_321 mi_X9_mix ty_78 rfl (t_X9_mix  hp) (Nat.le_of_ble_eq_true rfl) ⟨rfl, rfl⟩ ⟨Nat.le_of_ble_eq_true rfl, Nat.le_of_ble_eq_true rfl⟩ (fun h_75 hp => ?_)
    refine x_iinc (u := i3_55 + 1) (lv' := [(3, .int (i3_55 + 1)), (0, .ref 78), (1, .int i1), (2, .int i2)]) hC dX9_mixNear_78 (lm 3 rfl) (congrArg _ ic_1) (by decide) rfl ?_
    refine x_goto (tgt := 55) hC dX9_mixNear_81 (by decide) ?_
    exact x_subk [1, 2, 3, 0] rfl hp
set_option maxHeartbeats 4000000 in
theorem t_X9_mixNear {i1 : Int32} {h : HP} {Q : HP → Prop}  (hp : P_X9_mixNear i1 h Q) : MT yX9_mixNear cX9_mixNear 4 none rm_X9_mixNear [.ref 78, .int i1] gM SH (emb h) (pV Q) := by
  refine MT.of (by decide +kernel) (Nat.le_of_ble_eq_true rfl) (fun C hC hE => ?_)
  show SW C gM 0 [(0, .ref 78), (1, .int i1)] [] h
  unfold P_X9_mixNear at hp
  refine x_iconst hC dX9_mixNear_0 ic_0 ?_
  refine x_istore_n (lv' := [(2, .int 0), (0, .ref 78), (1, .int i1)]) hC dX9_mixNear_1 (by decide) rfl ?_
  refine x_subk (lv' := [(0, .ref 78), (1, .int i1), (2, .int 0)]) [1, 2, 0] rfl ?_
  refine hp (fun i2_2 h_2 => SW C gM 2 [(0, .ref 78), (1, .int i1), (2, .int i2_2)] [] h_2) (fun i2_2 h_2 hp => ?_)
  refine x_iload_n hC dX9_mixNear_2 (lm 2 rfl) ?_
  refine x_bipush hC dX9_mixNear_3 bp_10 ?_
  refine x_icmp_ge (tgt := 25) hC dX9_mixNear_5 (by decide) (fun hc => ?_) (fun hc => ?_)
  · have hp := hp.1 hc
    refine x_aload_n hC dX9_mixNear_25 (lm 0 rfl) ?_
    refine x_iload_n hC dX9_mixNear_26 (lm 1 rfl) ?_
    refine s_callVi (avs := [.int i1]) (st := []) hC dX9_mixNear_27 ml_9_182 mi_X9_isOpen ty_78 rfl (t_X9_isOpen  hp) (Nat.le_of_ble_eq_true rfl) ⟨rfl, rfl⟩ ⟨Nat.le_of_ble_eq_true rfl, Nat.le_of_ble_eq_true rfl⟩ (fun v_27 h_27 hp => ?_)
    refine x_if_eq (tgt := 51) hC dX9_mixNear_30 (by decide) (fun hc => ?_) (fun hc => ?_)
    · have hp := hp.1 hc
      refine x_iconst hC dX9_mixNear_51 ic_0 ?_
      refine x_istore_n (lv' := [(2, .int 0), (0, .ref 78), (1, .int i1)]) hC dX9_mixNear_52 (by decide) rfl ?_
      exact x_subk [1, 2, 0] rfl (l_X9_mixNear_j53 hC hE   hp)
    · have hp := hp.2 hc
      refine x_aload_n hC dX9_mixNear_33 (lm 0 rfl) ?_
      refine s_getR (r := 86) hC dX9_mixNear_34 fk_9_31 ty_78 (fr_9_14 ty_78).1 ?_
      refine x_iload_n hC dX9_mixNear_37 (lm 1 rfl) ?_
      obtain ⟨ho, hp⟩ := hp
      refine s_iald hC dX9_mixNear_38 ((fr_9_14 ty_78).2) ho ?_
      refine x_aload_n hC dX9_mixNear_39 (lm 0 rfl) ?_
      refine s_getR (r := 87) hC dX9_mixNear_40 fk_9_34 ty_78 (fr_9_15 ty_78).1 ?_
      refine x_iload_n hC dX9_mixNear_43 (lm 1 rfl) ?_
      obtain ⟨ho, hp⟩ := hp
      refine s_iald hC dX9_mixNear_44 ((fr_9_15 ty_78).2) ho ?_
      refine s_callSi (avs := [.int (h_27.1 86 i1.toNatClampNeg), .int (h_27.1 87 i1.toNatClampNeg)]) (st := []) hC dX9_mixNear_45 ml_9_119 ms_X9_ahead rfl (t_X9_ahead  hp) (Nat.le_of_ble_eq_true rfl) ⟨rfl, rfl⟩ ⟨Nat.le_of_ble_eq_true rfl, Nat.le_of_ble_eq_true rfl⟩ (fun v_45 h_45 hp => ?_)
      refine x_goto (tgt := 52) hC dX9_mixNear_48 (by decide) ?_
      refine x_istore_n (lv' := [(2, .int v_45), (0, .ref 78), (1, .int i1)]) hC dX9_mixNear_52 (by decide) rfl ?_
      exact x_subk [1, 2, 0] rfl (l_X9_mixNear_j53 hC hE   hp)
  · have hp := hp.2 hc
    refine x_aload_n hC dX9_mixNear_8 (lm 0 rfl) ?_
    refine x_aload_n hC dX9_mixNear_9 (lm 0 rfl) ?_
    refine x_iload_n hC dX9_mixNear_10 (lm 1 rfl) ?_
    refine x_iload_n hC dX9_mixNear_11 (lm 2 rfl) ?_
    refine s_callVi (avs := [.int i1, .int i2_2]) (st := [.ref 78]) hC dX9_mixNear_12 ml_9_296 mi_X9_nearNow ty_78 rfl (t_X9_nearNow  hp) (Nat.le_of_ble_eq_true rfl) ⟨rfl, rfl⟩ ⟨Nat.le_of_ble_eq_true rfl, Nat.le_of_ble_eq_true rfl⟩ (fun v_12 h_12 hp => ?_)
    refine x_i2l hC dX9_mixNear_15 ?_
    refine s_callVv (avs := [.long v_12.toInt64]) (st := []) hC dX9_mixNear_16 ml_9_321 mi_X9_mix ty_78 rfl (t_X9_mix  hp) (Nat.le_of_ble_eq_true rfl) ⟨rfl, rfl⟩ ⟨Nat.le_of_ble_eq_true rfl, Nat.le_of_ble_eq_true rfl⟩ (fun h_16 hp => ?_)
    refine x_iinc (u := i2_2 + 1) (lv' := [(2, .int (i2_2 + 1)), (0, .ref 78), (1, .int i1)]) hC dX9_mixNear_19 (lm 2 rfl) (congrArg _ ic_1) (by decide) rfl ?_
    refine x_goto (tgt := 2) hC dX9_mixNear_22 (by decide) ?_
    exact x_subk [1, 2, 0] rfl hp
theorem dX9_mixFar_0 : decode cX9_mixFar 0 = .ok (.iconst 0, 1) := by decide +kernel
theorem dX9_mixFar_1 : decode cX9_mixFar 1 = .ok (.istore_n 2, 1) := by decide +kernel
theorem dX9_mixFar_2 : decode cX9_mixFar 2 = .ok (.iload_n 2, 1) := by decide +kernel
theorem dX9_mixFar_3 : decode cX9_mixFar 3 = .ok (.bipush 9, 2) := by decide +kernel
theorem dX9_mixFar_5 : decode cX9_mixFar 5 = .ok (.if_icmp .ge 20, 3) := by decide +kernel
theorem dX9_mixFar_8 : decode cX9_mixFar 8 = .ok (.aload_n 0, 1) := by decide +kernel
theorem dX9_mixFar_9 : decode cX9_mixFar 9 = .ok (.aload_n 0, 1) := by decide +kernel
theorem dX9_mixFar_10 : decode cX9_mixFar 10 = .ok (.iload_n 1, 1) := by decide +kernel
theorem dX9_mixFar_11 : decode cX9_mixFar 11 = .ok (.iload_n 2, 1) := by decide +kernel
theorem dX9_mixFar_12 : decode cX9_mixFar 12 = .ok (.invokevirtual 306, 3) := by decide +kernel
theorem dX9_mixFar_15 : decode cX9_mixFar 15 = .ok (.i2l, 1) := by decide +kernel
theorem dX9_mixFar_16 : decode cX9_mixFar 16 = .ok (.invokevirtual 321, 3) := by decide +kernel
theorem dX9_mixFar_19 : decode cX9_mixFar 19 = .ok (.iinc 2 1, 3) := by decide +kernel
theorem dX9_mixFar_22 : decode cX9_mixFar 22 = .ok (.goto (-20), 3) := by decide +kernel
theorem dX9_mixFar_25 : decode cX9_mixFar 25 = .ok (.iconst 0, 1) := by decide +kernel
theorem dX9_mixFar_26 : decode cX9_mixFar 26 = .ok (.istore_n 2, 1) := by decide +kernel
theorem dX9_mixFar_27 : decode cX9_mixFar 27 = .ok (.iload_n 2, 1) := by decide +kernel
theorem dX9_mixFar_28 : decode cX9_mixFar 28 = .ok (.aload_n 0, 1) := by decide +kernel
theorem dX9_mixFar_29 : decode cX9_mixFar 29 = .ok (.getfield 77, 3) := by decide +kernel
theorem dX9_mixFar_32 : decode cX9_mixFar 32 = .ok (.iload_n 1, 1) := by decide +kernel
theorem dX9_mixFar_33 : decode cX9_mixFar 33 = .ok (.iaload, 1) := by decide +kernel
theorem dX9_mixFar_34 : decode cX9_mixFar 34 = .ok (.if_icmp .ge 44, 3) := by decide +kernel
theorem dX9_mixFar_37 : decode cX9_mixFar 37 = .ok (.aload_n 0, 1) := by decide +kernel
theorem dX9_mixFar_38 : decode cX9_mixFar 38 = .ok (.getfield 71, 3) := by decide +kernel
theorem dX9_mixFar_41 : decode cX9_mixFar 41 = .ok (.iload_n 1, 1) := by decide +kernel
theorem dX9_mixFar_42 : decode cX9_mixFar 42 = .ok (.baload, 1) := by decide +kernel
theorem dX9_mixFar_43 : decode cX9_mixFar 43 = .ok (.ifCond .eq 35, 3) := by decide +kernel
theorem dX9_mixFar_46 : decode cX9_mixFar 46 = .ok (.aload_n 0, 1) := by decide +kernel
theorem dX9_mixFar_47 : decode cX9_mixFar 47 = .ok (.aload_n 0, 1) := by decide +kernel
theorem dX9_mixFar_48 : decode cX9_mixFar 48 = .ok (.getfield 98, 3) := by decide +kernel
theorem dX9_mixFar_51 : decode cX9_mixFar 51 = .ok (.bipush 64, 2) := by decide +kernel
theorem dX9_mixFar_53 : decode cX9_mixFar 53 = .ok (.iload_n 1, 1) := by decide +kernel
theorem dX9_mixFar_54 : decode cX9_mixFar 54 = .ok (.imul, 1) := by decide +kernel
theorem dX9_mixFar_55 : decode cX9_mixFar 55 = .ok (.aload_n 0, 1) := by decide +kernel
theorem dX9_mixFar_56 : decode cX9_mixFar 56 = .ok (.getfield 83, 3) := by decide +kernel
theorem dX9_mixFar_59 : decode cX9_mixFar 59 = .ok (.iload_n 1, 1) := by decide +kernel
theorem dX9_mixFar_60 : decode cX9_mixFar 60 = .ok (.iaload, 1) := by decide +kernel
theorem dX9_mixFar_61 : decode cX9_mixFar 61 = .ok (.iload_n 2, 1) := by decide +kernel
theorem dX9_mixFar_62 : decode cX9_mixFar 62 = .ok (.iadd, 1) := by decide +kernel
theorem dX9_mixFar_63 : decode cX9_mixFar 63 = .ok (.bipush 64, 2) := by decide +kernel
theorem dX9_mixFar_65 : decode cX9_mixFar 65 = .ok (.irem, 1) := by decide +kernel
theorem dX9_mixFar_66 : decode cX9_mixFar 66 = .ok (.iadd, 1) := by decide +kernel
theorem dX9_mixFar_67 : decode cX9_mixFar 67 = .ok (.iaload, 1) := by decide +kernel
theorem dX9_mixFar_68 : decode cX9_mixFar 68 = .ok (.i2l, 1) := by decide +kernel
theorem dX9_mixFar_69 : decode cX9_mixFar 69 = .ok (.invokevirtual 321, 3) := by decide +kernel
theorem dX9_mixFar_72 : decode cX9_mixFar 72 = .ok (.iinc 2 1, 3) := by decide +kernel
theorem dX9_mixFar_75 : decode cX9_mixFar 75 = .ok (.goto (-48), 3) := by decide +kernel
theorem dX9_mixFar_78 : decode cX9_mixFar 78 = .ok (.iconst 0, 1) := by decide +kernel
theorem dX9_mixFar_79 : decode cX9_mixFar 79 = .ok (.istore_n 2, 1) := by decide +kernel
theorem dX9_mixFar_80 : decode cX9_mixFar 80 = .ok (.iload_n 2, 1) := by decide +kernel
theorem dX9_mixFar_81 : decode cX9_mixFar 81 = .ok (.aload_n 0, 1) := by decide +kernel
theorem dX9_mixFar_82 : decode cX9_mixFar 82 = .ok (.getfield 101, 3) := by decide +kernel
theorem dX9_mixFar_85 : decode cX9_mixFar 85 = .ok (.iload_n 1, 1) := by decide +kernel
theorem dX9_mixFar_86 : decode cX9_mixFar 86 = .ok (.iaload, 1) := by decide +kernel
theorem dX9_mixFar_87 : decode cX9_mixFar 87 = .ok (.if_icmp .ge 25, 3) := by decide +kernel
theorem dX9_mixFar_90 : decode cX9_mixFar 90 = .ok (.aload_n 0, 1) := by decide +kernel
theorem dX9_mixFar_91 : decode cX9_mixFar 91 = .ok (.aload_n 0, 1) := by decide +kernel
theorem dX9_mixFar_92 : decode cX9_mixFar 92 = .ok (.getfield 104, 3) := by decide +kernel
theorem dX9_mixFar_95 : decode cX9_mixFar 95 = .ok (.bipush 10, 2) := by decide +kernel
theorem dX9_mixFar_97 : decode cX9_mixFar 97 = .ok (.iload_n 1, 1) := by decide +kernel
theorem dX9_mixFar_98 : decode cX9_mixFar 98 = .ok (.imul, 1) := by decide +kernel
theorem dX9_mixFar_99 : decode cX9_mixFar 99 = .ok (.iload_n 2, 1) := by decide +kernel
theorem dX9_mixFar_100 : decode cX9_mixFar 100 = .ok (.iadd, 1) := by decide +kernel
theorem dX9_mixFar_101 : decode cX9_mixFar 101 = .ok (.iaload, 1) := by decide +kernel
theorem dX9_mixFar_102 : decode cX9_mixFar 102 = .ok (.i2l, 1) := by decide +kernel
theorem dX9_mixFar_103 : decode cX9_mixFar 103 = .ok (.invokevirtual 321, 3) := by decide +kernel
theorem dX9_mixFar_106 : decode cX9_mixFar 106 = .ok (.iinc 2 1, 3) := by decide +kernel
theorem dX9_mixFar_109 : decode cX9_mixFar 109 = .ok (.goto (-29), 3) := by decide +kernel
theorem dX9_mixFar_112 : decode cX9_mixFar 112 = .ok (.return_, 1) := by decide +kernel
abbrev rm_X9_mixFar : Room := { frames := 2, cells := 0, slots := 0, locals := 45 }
def P_X9_mixFar_j78 (_q0 : Nat) (i1 : Int32) (h : HP)  (Q : HP → Prop) : Prop := Lp2 (fun X_80 (i2_80 : Int32) (h_80 : HP) => (vp_in i1 4) ∧ ((((h_80.1 109 i1.toNatClampNeg) ≤ i2_80) → Q h_80) ∧ ((¬ (h_80.1 109 i1.toNatClampNeg) ≤ i2_80) → ((vp_in ((10 * i1) + i2_80) 40) ∧ (P_X9_mix ((h_80.1 110 ((10 * i1) + i2_80).toNatClampNeg).toInt64) h_80 (fun (h_103 : HP) => X_80 (i2_80 + 1) h_103)))))) 0 h
def P_X9_mixFar (i1 : Int32) (h : HP) (Q : HP → Prop) : Prop := Lp2 (fun X_2 (i2_2 : Int32) (h_2 : HP) => ((9 ≤ i2_2) → (Lp2 (fun X_27 (i2_27 : Int32) (h_27 : HP) => (vp_in i1 4) ∧ ((((h_27.1 101 i1.toNatClampNeg) ≤ i2_27) → P_X9_mixFar_j78 78 i1 h_27 Q) ∧ ((¬ (h_27.1 101 i1.toNatClampNeg) ≤ i2_27) → ((vp_in i1 4) ∧ ((((h_27.1 99 i1.toNatClampNeg) = 0) → P_X9_mixFar_j78 78 i1 h_27 Q) ∧ ((¬ (h_27.1 99 i1.toNatClampNeg) = 0) → ((vp_in i1 4) ∧ ((vp_in ((64 * i1) + (((h_27.1 103 i1.toNatClampNeg) + i2_27) - ((h_27.1 103 i1.toNatClampNeg) + i2_27) / 64 * 64)) 256) ∧ (P_X9_mix ((h_27.1 108 ((64 * i1) + (((h_27.1 103 i1.toNatClampNeg) + i2_27) - ((h_27.1 103 i1.toNatClampNeg) + i2_27) / 64 * 64)).toNatClampNeg).toInt64) h_27 (fun (h_69 : HP) => X_27 (i2_27 + 1) h_69)))))))))) 0 h_2)) ∧ ((¬ 9 ≤ i2_2) → (P_X9_farNow i1 i2_2 h_2 (fun (v_12 : Int32) (h_12 : HP) => P_X9_mix v_12.toInt64 h_12 (fun (h_16 : HP) => X_2 (i2_2 + 1) h_16))))) 0 h
set_option maxHeartbeats 4000000 in
theorem l_X9_mixFar_j78 {i1 : Int32} {h : HP}  {Q : HP → Prop} {C : Cx} (hC : xOk C cX9_mixFar yX9_mixFar.cls 3 rm_X9_mixFar none) (hE : xEnd C gM SH (pV Q))   (hp : P_X9_mixFar_j78 78 i1 h  Q) : SW C gM 78 [(0, .ref 78), (1, .int i1)] [] h := by
  unfold P_X9_mixFar_j78 at hp
  refine x_iconst hC dX9_mixFar_78 ic_0 ?_
  refine x_istore_n (lv' := [(2, .int 0), (0, .ref 78), (1, .int i1)]) hC dX9_mixFar_79 (by decide) rfl ?_
  refine x_subk (lv' := [(0, .ref 78), (1, .int i1), (2, .int 0)]) [1, 2, 0] rfl ?_
  refine hp (fun i2_80 h_80 => SW C gM 80 [(0, .ref 78), (1, .int i1), (2, .int i2_80)] [] h_80) (fun i2_80 h_80 hp => ?_)
  refine x_iload_n hC dX9_mixFar_80 (lm 2 rfl) ?_
  refine x_aload_n hC dX9_mixFar_81 (lm 0 rfl) ?_
  refine s_getR (r := 109) hC dX9_mixFar_82 fk_9_101 ty_78 (fr_9_37 ty_78).1 ?_
  refine x_iload_n hC dX9_mixFar_85 (lm 1 rfl) ?_
  obtain ⟨ho, hp⟩ := hp
  refine s_iald hC dX9_mixFar_86 ((fr_9_37 ty_78).2) ho ?_
  refine x_icmp_ge (tgt := 112) hC dX9_mixFar_87 (by decide) (fun hc => ?_) (fun hc => ?_)
  · have hp := hp.1 hc
    exact x_vret hC hE dX9_mixFar_112 ⟨_, rfl, rfl, hp⟩
  · have hp := hp.2 hc
    refine x_aload_n hC dX9_mixFar_90 (lm 0 rfl) ?_
    refine x_aload_n hC dX9_mixFar_91 (lm 0 rfl) ?_
    refine s_getR (r := 110) hC dX9_mixFar_92 fk_9_104 ty_78 (fr_9_38 ty_78).1 ?_
    refine x_bipush hC dX9_mixFar_95 bp_10 ?_
    refine x_iload_n hC dX9_mixFar_97 (lm 1 rfl) ?_
    refine x_imul hC dX9_mixFar_98 ?_
    refine x_iload_n hC dX9_mixFar_99 (lm 2 rfl) ?_
    refine x_iadd hC dX9_mixFar_100 ?_
    obtain ⟨ho, hp⟩ := hp
    refine s_iald hC dX9_mixFar_101 ((fr_9_38 ty_78).2) ho ?_
    refine x_i2l hC dX9_mixFar_102 ?_
    refine s_callVv (avs := [.long ((h_80.1 110 ((10 * i1) + i2_80).toNatClampNeg).toInt64)]) (st := []) hC dX9_mixFar_103 ml_9_321 mi_X9_mix ty_78 rfl (t_X9_mix  hp) (Nat.le_of_ble_eq_true rfl) ⟨rfl, rfl⟩ ⟨Nat.le_of_ble_eq_true rfl, Nat.le_of_ble_eq_true rfl⟩ (fun h_103 hp => ?_)
    refine x_iinc (u := i2_80 + 1) (lv' := [(2, .int (i2_80 + 1)), (0, .ref 78), (1, .int i1)]) hC dX9_mixFar_106 (lm 2 rfl) (congrArg _ ic_1) (by decide) rfl ?_
    refine x_goto (tgt := 80) hC dX9_mixFar_109 (by decide) ?_
    exact x_subk [1, 2, 0] rfl hp
set_option maxHeartbeats 4000000 in
theorem t_X9_mixFar {i1 : Int32} {h : HP} {Q : HP → Prop}  (hp : P_X9_mixFar i1 h Q) : MT yX9_mixFar cX9_mixFar 3 none rm_X9_mixFar [.ref 78, .int i1] gM SH (emb h) (pV Q) := by
  refine MT.of (by decide +kernel) (Nat.le_of_ble_eq_true rfl) (fun C hC hE => ?_)
  show SW C gM 0 [(0, .ref 78), (1, .int i1)] [] h
  unfold P_X9_mixFar at hp
  refine x_iconst hC dX9_mixFar_0 ic_0 ?_
  refine x_istore_n (lv' := [(2, .int 0), (0, .ref 78), (1, .int i1)]) hC dX9_mixFar_1 (by decide) rfl ?_
  refine x_subk (lv' := [(0, .ref 78), (1, .int i1), (2, .int 0)]) [1, 2, 0] rfl ?_
  refine hp (fun i2_2 h_2 => SW C gM 2 [(0, .ref 78), (1, .int i1), (2, .int i2_2)] [] h_2) (fun i2_2 h_2 hp => ?_)
  refine x_iload_n hC dX9_mixFar_2 (lm 2 rfl) ?_
  refine x_bipush hC dX9_mixFar_3 bp_9 ?_
  refine x_icmp_ge (tgt := 25) hC dX9_mixFar_5 (by decide) (fun hc => ?_) (fun hc => ?_)
  · have hp := hp.1 hc
    refine x_iconst hC dX9_mixFar_25 ic_0 ?_
    refine x_istore_n (lv' := [(2, .int 0), (0, .ref 78), (1, .int i1)]) hC dX9_mixFar_26 (by decide) rfl ?_
    refine x_subk (lv' := [(0, .ref 78), (1, .int i1), (2, .int 0)]) [1, 2, 0] rfl ?_
    refine hp (fun i2_27 h_27 => SW C gM 27 [(0, .ref 78), (1, .int i1), (2, .int i2_27)] [] h_27) (fun i2_27 h_27 hp => ?_)
    refine x_iload_n hC dX9_mixFar_27 (lm 2 rfl) ?_
    refine x_aload_n hC dX9_mixFar_28 (lm 0 rfl) ?_
    refine s_getR (r := 101) hC dX9_mixFar_29 fk_9_77 ty_78 (fr_9_29 ty_78).1 ?_
    refine x_iload_n hC dX9_mixFar_32 (lm 1 rfl) ?_
    obtain ⟨ho, hp⟩ := hp
    refine s_iald hC dX9_mixFar_33 ((fr_9_29 ty_78).2) ho ?_
    refine x_icmp_ge (tgt := 78) hC dX9_mixFar_34 (by decide) (fun hc => ?_) (fun hc => ?_)
    · have hp := hp.1 hc
      exact x_subk [0, 1] rfl (l_X9_mixFar_j78 hC hE   hp)
    · have hp := hp.2 hc
      refine x_aload_n hC dX9_mixFar_37 (lm 0 rfl) ?_
      refine s_getR (r := 99) hC dX9_mixFar_38 fk_9_71 ty_78 (fr_9_27 ty_78).1 ?_
      refine x_iload_n hC dX9_mixFar_41 (lm 1 rfl) ?_
      obtain ⟨ho, hp⟩ := hp
      refine s_zald hC dX9_mixFar_42 ((fr_9_27 ty_78).2) ho ?_
      refine x_if_eq (tgt := 78) hC dX9_mixFar_43 (by decide) (fun hc => ?_) (fun hc => ?_)
      · have hp := hp.1 hc
        exact x_subk [0, 1] rfl (l_X9_mixFar_j78 hC hE   hp)
      · have hp := hp.2 hc
        refine x_aload_n hC dX9_mixFar_46 (lm 0 rfl) ?_
        refine x_aload_n hC dX9_mixFar_47 (lm 0 rfl) ?_
        refine s_getR (r := 108) hC dX9_mixFar_48 fk_9_98 ty_78 (fr_9_36 ty_78).1 ?_
        refine x_bipush hC dX9_mixFar_51 bp_64 ?_
        refine x_iload_n hC dX9_mixFar_53 (lm 1 rfl) ?_
        refine x_imul hC dX9_mixFar_54 ?_
        refine x_aload_n hC dX9_mixFar_55 (lm 0 rfl) ?_
        refine s_getR (r := 103) hC dX9_mixFar_56 fk_9_83 ty_78 (fr_9_31 ty_78).1 ?_
        refine x_iload_n hC dX9_mixFar_59 (lm 1 rfl) ?_
        obtain ⟨ho, hp⟩ := hp
        refine s_iald hC dX9_mixFar_60 ((fr_9_31 ty_78).2) ho ?_
        refine x_iload_n hC dX9_mixFar_61 (lm 2 rfl) ?_
        refine x_iadd hC dX9_mixFar_62 ?_
        refine x_bipush hC dX9_mixFar_63 bp_64 ?_
        refine x_irem hC dX9_mixFar_65 (by decide) ?_
        refine x_iadd hC dX9_mixFar_66 ?_
        obtain ⟨ho, hp⟩ := hp
        refine s_iald hC dX9_mixFar_67 ((fr_9_36 ty_78).2) ho ?_
        refine x_i2l hC dX9_mixFar_68 ?_
        refine s_callVv (avs := [.long ((h_27.1 108 ((64 * i1) + (((h_27.1 103 i1.toNatClampNeg) + i2_27) - ((h_27.1 103 i1.toNatClampNeg) + i2_27) / 64 * 64)).toNatClampNeg).toInt64)]) (st := []) hC dX9_mixFar_69 ml_9_321 mi_X9_mix ty_78 rfl (t_X9_mix  hp) (Nat.le_of_ble_eq_true rfl) ⟨rfl, rfl⟩ ⟨Nat.le_of_ble_eq_true rfl, Nat.le_of_ble_eq_true rfl⟩ (fun h_69 hp => ?_)
        refine x_iinc (u := i2_27 + 1) (lv' := [(2, .int (i2_27 + 1)), (0, .ref 78), (1, .int i1)]) hC dX9_mixFar_72 (lm 2 rfl) (congrArg _ ic_1) (by decide) rfl ?_
        refine x_goto (tgt := 27) hC dX9_mixFar_75 (by decide) ?_
        exact x_subk [1, 2, 0] rfl hp
  · have hp := hp.2 hc
    refine x_aload_n hC dX9_mixFar_8 (lm 0 rfl) ?_
    refine x_aload_n hC dX9_mixFar_9 (lm 0 rfl) ?_
    refine x_iload_n hC dX9_mixFar_10 (lm 1 rfl) ?_
    refine x_iload_n hC dX9_mixFar_11 (lm 2 rfl) ?_
    refine s_callVi (avs := [.int i1, .int i2_2]) (st := [.ref 78]) hC dX9_mixFar_12 ml_9_306 mi_X9_farNow ty_78 rfl (t_X9_farNow  hp) (Nat.le_of_ble_eq_true rfl) ⟨rfl, rfl⟩ ⟨Nat.le_of_ble_eq_true rfl, Nat.le_of_ble_eq_true rfl⟩ (fun v_12 h_12 hp => ?_)
    refine x_i2l hC dX9_mixFar_15 ?_
    refine s_callVv (avs := [.long v_12.toInt64]) (st := []) hC dX9_mixFar_16 ml_9_321 mi_X9_mix ty_78 rfl (t_X9_mix  hp) (Nat.le_of_ble_eq_true rfl) ⟨rfl, rfl⟩ ⟨Nat.le_of_ble_eq_true rfl, Nat.le_of_ble_eq_true rfl⟩ (fun h_16 hp => ?_)
    refine x_iinc (u := i2_2 + 1) (lv' := [(2, .int (i2_2 + 1)), (0, .ref 78), (1, .int i1)]) hC dX9_mixFar_19 (lm 2 rfl) (congrArg _ ic_1) (by decide) rfl ?_
    refine x_goto (tgt := 2) hC dX9_mixFar_22 (by decide) ?_
    exact x_subk [1, 2, 0] rfl hp
theorem dX9_mixAir_0 : decode cX9_mixAir 0 = .ok (.iconst 0, 1) := by decide +kernel
theorem dX9_mixAir_1 : decode cX9_mixAir 1 = .ok (.istore_n 1, 1) := by decide +kernel
theorem dX9_mixAir_2 : decode cX9_mixAir 2 = .ok (.iload_n 1, 1) := by decide +kernel
theorem dX9_mixAir_3 : decode cX9_mixAir 3 = .ok (.bipush 7, 2) := by decide +kernel
theorem dX9_mixAir_5 : decode cX9_mixAir 5 = .ok (.if_icmp .ge 19, 3) := by decide +kernel
theorem dX9_mixAir_8 : decode cX9_mixAir 8 = .ok (.aload_n 0, 1) := by decide +kernel
theorem dX9_mixAir_9 : decode cX9_mixAir 9 = .ok (.aload_n 0, 1) := by decide +kernel
theorem dX9_mixAir_10 : decode cX9_mixAir 10 = .ok (.iload_n 1, 1) := by decide +kernel
theorem dX9_mixAir_11 : decode cX9_mixAir 11 = .ok (.invokevirtual 293, 3) := by decide +kernel
theorem dX9_mixAir_14 : decode cX9_mixAir 14 = .ok (.i2l, 1) := by decide +kernel
theorem dX9_mixAir_15 : decode cX9_mixAir 15 = .ok (.invokevirtual 321, 3) := by decide +kernel
theorem dX9_mixAir_18 : decode cX9_mixAir 18 = .ok (.iinc 1 1, 3) := by decide +kernel
theorem dX9_mixAir_21 : decode cX9_mixAir 21 = .ok (.goto (-19), 3) := by decide +kernel
theorem dX9_mixAir_24 : decode cX9_mixAir 24 = .ok (.iconst 0, 1) := by decide +kernel
theorem dX9_mixAir_25 : decode cX9_mixAir 25 = .ok (.istore_n 1, 1) := by decide +kernel
theorem dX9_mixAir_26 : decode cX9_mixAir 26 = .ok (.iload_n 1, 1) := by decide +kernel
theorem dX9_mixAir_27 : decode cX9_mixAir 27 = .ok (.iconst 4, 1) := by decide +kernel
theorem dX9_mixAir_28 : decode cX9_mixAir 28 = .ok (.if_icmp .ge 19, 3) := by decide +kernel
theorem dX9_mixAir_31 : decode cX9_mixAir 31 = .ok (.aload_n 0, 1) := by decide +kernel
theorem dX9_mixAir_32 : decode cX9_mixAir 32 = .ok (.iload_n 1, 1) := by decide +kernel
theorem dX9_mixAir_33 : decode cX9_mixAir 33 = .ok (.invokevirtual 325, 3) := by decide +kernel
theorem dX9_mixAir_36 : decode cX9_mixAir 36 = .ok (.aload_n 0, 1) := by decide +kernel
theorem dX9_mixAir_37 : decode cX9_mixAir 37 = .ok (.iload_n 1, 1) := by decide +kernel
theorem dX9_mixAir_38 : decode cX9_mixAir 38 = .ok (.invokevirtual 328, 3) := by decide +kernel
theorem dX9_mixAir_41 : decode cX9_mixAir 41 = .ok (.iinc 1 1, 3) := by decide +kernel
theorem dX9_mixAir_44 : decode cX9_mixAir 44 = .ok (.goto (-18), 3) := by decide +kernel
theorem dX9_mixAir_47 : decode cX9_mixAir 47 = .ok (.iconst 0, 1) := by decide +kernel
theorem dX9_mixAir_48 : decode cX9_mixAir 48 = .ok (.istore_n 1, 1) := by decide +kernel
theorem dX9_mixAir_49 : decode cX9_mixAir 49 = .ok (.iload_n 1, 1) := by decide +kernel
theorem dX9_mixAir_50 : decode cX9_mixAir 50 = .ok (.aload_n 0, 1) := by decide +kernel
theorem dX9_mixAir_51 : decode cX9_mixAir 51 = .ok (.getfield 154, 3) := by decide +kernel
theorem dX9_mixAir_54 : decode cX9_mixAir 54 = .ok (.if_icmp .ge 76, 3) := by decide +kernel
theorem dX9_mixAir_57 : decode cX9_mixAir 57 = .ok (.iconst 0, 1) := by decide +kernel
theorem dX9_mixAir_58 : decode cX9_mixAir 58 = .ok (.istore_n 2, 1) := by decide +kernel
theorem dX9_mixAir_59 : decode cX9_mixAir 59 = .ok (.iload_n 2, 1) := by decide +kernel
theorem dX9_mixAir_60 : decode cX9_mixAir 60 = .ok (.bipush 6, 2) := by decide +kernel
theorem dX9_mixAir_62 : decode cX9_mixAir 62 = .ok (.if_icmp .ge 20, 3) := by decide +kernel
theorem dX9_mixAir_65 : decode cX9_mixAir 65 = .ok (.aload_n 0, 1) := by decide +kernel
theorem dX9_mixAir_66 : decode cX9_mixAir 66 = .ok (.aload_n 0, 1) := by decide +kernel
theorem dX9_mixAir_67 : decode cX9_mixAir 67 = .ok (.iload_n 1, 1) := by decide +kernel
theorem dX9_mixAir_68 : decode cX9_mixAir 68 = .ok (.iload_n 2, 1) := by decide +kernel
theorem dX9_mixAir_69 : decode cX9_mixAir 69 = .ok (.invokevirtual 309, 3) := by decide +kernel
theorem dX9_mixAir_72 : decode cX9_mixAir 72 = .ok (.i2l, 1) := by decide +kernel
theorem dX9_mixAir_73 : decode cX9_mixAir 73 = .ok (.invokevirtual 321, 3) := by decide +kernel
theorem dX9_mixAir_76 : decode cX9_mixAir 76 = .ok (.iinc 2 1, 3) := by decide +kernel
theorem dX9_mixAir_79 : decode cX9_mixAir 79 = .ok (.goto (-20), 3) := by decide +kernel
theorem dX9_mixAir_82 : decode cX9_mixAir 82 = .ok (.iconst 0, 1) := by decide +kernel
theorem dX9_mixAir_83 : decode cX9_mixAir 83 = .ok (.istore_n 2, 1) := by decide +kernel
theorem dX9_mixAir_84 : decode cX9_mixAir 84 = .ok (.iload_n 2, 1) := by decide +kernel
theorem dX9_mixAir_85 : decode cX9_mixAir 85 = .ok (.iconst 4, 1) := by decide +kernel
theorem dX9_mixAir_86 : decode cX9_mixAir 86 = .ok (.aload_n 0, 1) := by decide +kernel
theorem dX9_mixAir_87 : decode cX9_mixAir 87 = .ok (.getfield 107, 3) := by decide +kernel
theorem dX9_mixAir_90 : decode cX9_mixAir 90 = .ok (.bipush 8, 2) := by decide +kernel
theorem dX9_mixAir_92 : decode cX9_mixAir 92 = .ok (.iload_n 1, 1) := by decide +kernel
theorem dX9_mixAir_93 : decode cX9_mixAir 93 = .ok (.imul, 1) := by decide +kernel
theorem dX9_mixAir_94 : decode cX9_mixAir 94 = .ok (.bipush 7, 2) := by decide +kernel
theorem dX9_mixAir_96 : decode cX9_mixAir 96 = .ok (.iadd, 1) := by decide +kernel
theorem dX9_mixAir_97 : decode cX9_mixAir 97 = .ok (.iaload, 1) := by decide +kernel
theorem dX9_mixAir_98 : decode cX9_mixAir 98 = .ok (.imul, 1) := by decide +kernel
theorem dX9_mixAir_99 : decode cX9_mixAir 99 = .ok (.if_icmp .ge 25, 3) := by decide +kernel
theorem dX9_mixAir_102 : decode cX9_mixAir 102 = .ok (.aload_n 0, 1) := by decide +kernel
theorem dX9_mixAir_103 : decode cX9_mixAir 103 = .ok (.aload_n 0, 1) := by decide +kernel
theorem dX9_mixAir_104 : decode cX9_mixAir 104 = .ok (.getfield 110, 3) := by decide +kernel
theorem dX9_mixAir_107 : decode cX9_mixAir 107 = .ok (.bipush 32, 2) := by decide +kernel
theorem dX9_mixAir_109 : decode cX9_mixAir 109 = .ok (.iload_n 1, 1) := by decide +kernel
theorem dX9_mixAir_110 : decode cX9_mixAir 110 = .ok (.imul, 1) := by decide +kernel
theorem dX9_mixAir_111 : decode cX9_mixAir 111 = .ok (.iload_n 2, 1) := by decide +kernel
theorem dX9_mixAir_112 : decode cX9_mixAir 112 = .ok (.iadd, 1) := by decide +kernel
theorem dX9_mixAir_113 : decode cX9_mixAir 113 = .ok (.iaload, 1) := by decide +kernel
theorem dX9_mixAir_114 : decode cX9_mixAir 114 = .ok (.i2l, 1) := by decide +kernel
theorem dX9_mixAir_115 : decode cX9_mixAir 115 = .ok (.invokevirtual 321, 3) := by decide +kernel
theorem dX9_mixAir_118 : decode cX9_mixAir 118 = .ok (.iinc 2 1, 3) := by decide +kernel
theorem dX9_mixAir_121 : decode cX9_mixAir 121 = .ok (.goto (-37), 3) := by decide +kernel
theorem dX9_mixAir_124 : decode cX9_mixAir 124 = .ok (.iinc 1 1, 3) := by decide +kernel
theorem dX9_mixAir_127 : decode cX9_mixAir 127 = .ok (.goto (-78), 3) := by decide +kernel
theorem dX9_mixAir_130 : decode cX9_mixAir 130 = .ok (.return_, 1) := by decide +kernel
abbrev rm_X9_mixAir : Room := { frames := 4, cells := 0, slots := 0, locals := 89 }
def P_X9_mixAir  (h : HP) (Q : HP → Prop) : Prop := Lp2 (fun X_2 (i1_2 : Int32) (h_2 : HP) => ((7 ≤ i1_2) → (Lp2 (fun X_26 (i1_26 : Int32) (h_26 : HP) => ((4 ≤ i1_26) → (Lp2 (fun X_49 (i1_49 : Int32) (h_49 : HP) => (((h_49.1 78 39) ≤ i1_49) → Q h_49) ∧ ((¬ (h_49.1 78 39) ≤ i1_49) → (Lp2 (fun X_59 (i2_59 : Int32) (h_59 : HP) => ((6 ≤ i2_59) → (Lp2 (fun X_84 (i2_84 : Int32) (h_84 : HP) => (vp_in ((8 * i1_49) + 7) 128) ∧ ((((4 * (h_84.1 111 ((8 * i1_49) + 7).toNatClampNeg)) ≤ i2_84) → (X_49 (i1_49 + 1) h_84)) ∧ ((¬ (4 * (h_84.1 111 ((8 * i1_49) + 7).toNatClampNeg)) ≤ i2_84) → ((vp_in ((32 * i1_49) + i2_84) 512) ∧ (P_X9_mix ((h_84.1 112 ((32 * i1_49) + i2_84).toNatClampNeg).toInt64) h_84 (fun (h_115 : HP) => X_84 (i2_84 + 1) h_115)))))) 0 h_59)) ∧ ((¬ 6 ≤ i2_59) → (P_X9_underNow i1_49 i2_59 h_59 (fun (v_69 : Int32) (h_69 : HP) => P_X9_mix v_69.toInt64 h_69 (fun (h_73 : HP) => X_59 (i2_59 + 1) h_73))))) 0 h_49))) 0 h_26)) ∧ ((¬ 4 ≤ i1_26) → (P_X9_mixNear i1_26 h_26 (fun (h_33 : HP) => P_X9_mixFar i1_26 h_33 (fun (h_38 : HP) => X_26 (i1_26 + 1) h_38))))) 0 h_2)) ∧ ((¬ 7 ≤ i1_2) → (P_X9_aboutNow i1_2 h_2 (fun (v_11 : Int32) (h_11 : HP) => P_X9_mix v_11.toInt64 h_11 (fun (h_15 : HP) => X_2 (i1_2 + 1) h_15))))) 0 h
set_option maxHeartbeats 4000000 in
theorem t_X9_mixAir  {h : HP} {Q : HP → Prop}  (hp : P_X9_mixAir  h Q) : MT yX9_mixAir cX9_mixAir 3 none rm_X9_mixAir [.ref 78] gM SH (emb h) (pV Q) := by
  refine MT.of (by decide +kernel) (Nat.le_of_ble_eq_true rfl) (fun C hC hE => ?_)
  show SW C gM 0 [(0, .ref 78)] [] h
  unfold P_X9_mixAir at hp
  refine x_iconst hC dX9_mixAir_0 ic_0 ?_
  refine x_istore_n (lv' := [(1, .int 0), (0, .ref 78)]) hC dX9_mixAir_1 (by decide) rfl ?_
  refine x_subk (lv' := [(0, .ref 78), (1, .int 0)]) [1, 0] rfl ?_
  refine hp (fun i1_2 h_2 => SW C gM 2 [(0, .ref 78), (1, .int i1_2)] [] h_2) (fun i1_2 h_2 hp => ?_)
  refine x_iload_n hC dX9_mixAir_2 (lm 1 rfl) ?_
  refine x_bipush hC dX9_mixAir_3 bp_7 ?_
  refine x_icmp_ge (tgt := 24) hC dX9_mixAir_5 (by decide) (fun hc => ?_) (fun hc => ?_)
  · have hp := hp.1 hc
    refine x_iconst hC dX9_mixAir_24 ic_0 ?_
    refine x_istore_n (lv' := [(1, .int 0), (0, .ref 78)]) hC dX9_mixAir_25 (by decide) rfl ?_
    refine x_subk (lv' := [(0, .ref 78), (1, .int 0)]) [1, 0] rfl ?_
    refine hp (fun i1_26 h_26 => SW C gM 26 [(0, .ref 78), (1, .int i1_26)] [] h_26) (fun i1_26 h_26 hp => ?_)
    refine x_iload_n hC dX9_mixAir_26 (lm 1 rfl) ?_
    refine x_iconst hC dX9_mixAir_27 ic_4 ?_
    refine x_icmp_ge (tgt := 47) hC dX9_mixAir_28 (by decide) (fun hc => ?_) (fun hc => ?_)
    · have hp := hp.1 hc
      refine x_iconst hC dX9_mixAir_47 ic_0 ?_
      refine x_istore_n (lv' := [(1, .int 0), (0, .ref 78)]) hC dX9_mixAir_48 (by decide) rfl ?_
      refine x_subk (lv' := [(0, .ref 78), (1, .int 0)]) [1, 0] rfl ?_
      refine hp (fun i1_49 h_49 => SW C gM 49 [(0, .ref 78), (1, .int i1_49)] [] h_49) (fun i1_49 h_49 hp => ?_)
      refine x_iload_n hC dX9_mixAir_49 (lm 1 rfl) ?_
      refine x_aload_n hC dX9_mixAir_50 (lm 0 rfl) ?_
      refine s_getI hC dX9_mixAir_51 fk_9_154 ty_78 ?_
      refine x_icmp_ge (tgt := 130) hC dX9_mixAir_54 (by decide) (fun hc => ?_) (fun hc => ?_)
      · have hp := hp.1 hc
        exact x_vret hC hE dX9_mixAir_130 ⟨_, rfl, rfl, hp⟩
      · have hp := hp.2 hc
        refine x_iconst hC dX9_mixAir_57 ic_0 ?_
        refine x_istore_n (lv' := [(2, .int 0), (0, .ref 78), (1, .int i1_49)]) hC dX9_mixAir_58 (by decide) rfl ?_
        refine x_subk (lv' := [(0, .ref 78), (1, .int i1_49), (2, .int 0)]) [1, 2, 0] rfl ?_
        refine hp (fun i2_59 h_59 => SW C gM 59 [(0, .ref 78), (1, .int i1_49), (2, .int i2_59)] [] h_59) (fun i2_59 h_59 hp => ?_)
        refine x_iload_n hC dX9_mixAir_59 (lm 2 rfl) ?_
        refine x_bipush hC dX9_mixAir_60 bp_6 ?_
        refine x_icmp_ge (tgt := 82) hC dX9_mixAir_62 (by decide) (fun hc => ?_) (fun hc => ?_)
        · have hp := hp.1 hc
          refine x_iconst hC dX9_mixAir_82 ic_0 ?_
          refine x_istore_n (lv' := [(2, .int 0), (0, .ref 78), (1, .int i1_49)]) hC dX9_mixAir_83 (by decide) rfl ?_
          refine x_subk (lv' := [(0, .ref 78), (1, .int i1_49), (2, .int 0)]) [1, 2, 0] rfl ?_
          refine hp (fun i2_84 h_84 => SW C gM 84 [(0, .ref 78), (1, .int i1_49), (2, .int i2_84)] [] h_84) (fun i2_84 h_84 hp => ?_)
          refine x_iload_n hC dX9_mixAir_84 (lm 2 rfl) ?_
          refine x_iconst hC dX9_mixAir_85 ic_4 ?_
          refine x_aload_n hC dX9_mixAir_86 (lm 0 rfl) ?_
          refine s_getR (r := 111) hC dX9_mixAir_87 fk_9_107 ty_78 (fr_9_40 ty_78).1 ?_
          refine x_bipush hC dX9_mixAir_90 bp_8 ?_
          refine x_iload_n hC dX9_mixAir_92 (lm 1 rfl) ?_
          refine x_imul hC dX9_mixAir_93 ?_
          refine x_bipush hC dX9_mixAir_94 bp_7 ?_
          refine x_iadd hC dX9_mixAir_96 ?_
          obtain ⟨ho, hp⟩ := hp
          refine s_iald hC dX9_mixAir_97 ((fr_9_40 ty_78).2) ho ?_
          refine x_imul hC dX9_mixAir_98 ?_
          refine x_icmp_ge (tgt := 124) hC dX9_mixAir_99 (by decide) (fun hc => ?_) (fun hc => ?_)
          · have hp := hp.1 hc
            refine x_iinc (u := i1_49 + 1) (lv' := [(1, .int (i1_49 + 1)), (0, .ref 78), (2, .int i2_84)]) hC dX9_mixAir_124 (lm 1 rfl) (congrArg _ ic_1) (by decide) rfl ?_
            refine x_goto (tgt := 49) hC dX9_mixAir_127 (by decide) ?_
            exact x_subk [1, 0] rfl hp
          · have hp := hp.2 hc
            refine x_aload_n hC dX9_mixAir_102 (lm 0 rfl) ?_
            refine x_aload_n hC dX9_mixAir_103 (lm 0 rfl) ?_
            refine s_getR (r := 112) hC dX9_mixAir_104 fk_9_110 ty_78 (fr_9_41 ty_78).1 ?_
            refine x_bipush hC dX9_mixAir_107 bp_32 ?_
            refine x_iload_n hC dX9_mixAir_109 (lm 1 rfl) ?_
            refine x_imul hC dX9_mixAir_110 ?_
            refine x_iload_n hC dX9_mixAir_111 (lm 2 rfl) ?_
            refine x_iadd hC dX9_mixAir_112 ?_
            obtain ⟨ho, hp⟩ := hp
            refine s_iald hC dX9_mixAir_113 ((fr_9_41 ty_78).2) ho ?_
            refine x_i2l hC dX9_mixAir_114 ?_
            refine s_callVv (avs := [.long ((h_84.1 112 ((32 * i1_49) + i2_84).toNatClampNeg).toInt64)]) (st := []) hC dX9_mixAir_115 ml_9_321 mi_X9_mix ty_78 rfl (t_X9_mix  hp) (Nat.le_of_ble_eq_true rfl) ⟨rfl, rfl⟩ ⟨Nat.le_of_ble_eq_true rfl, Nat.le_of_ble_eq_true rfl⟩ (fun h_115 hp => ?_)
            refine x_iinc (u := i2_84 + 1) (lv' := [(2, .int (i2_84 + 1)), (0, .ref 78), (1, .int i1_49)]) hC dX9_mixAir_118 (lm 2 rfl) (congrArg _ ic_1) (by decide) rfl ?_
            refine x_goto (tgt := 84) hC dX9_mixAir_121 (by decide) ?_
            exact x_subk [1, 2, 0] rfl hp
        · have hp := hp.2 hc
          refine x_aload_n hC dX9_mixAir_65 (lm 0 rfl) ?_
          refine x_aload_n hC dX9_mixAir_66 (lm 0 rfl) ?_
          refine x_iload_n hC dX9_mixAir_67 (lm 1 rfl) ?_
          refine x_iload_n hC dX9_mixAir_68 (lm 2 rfl) ?_
          refine s_callVi (avs := [.int i1_49, .int i2_59]) (st := [.ref 78]) hC dX9_mixAir_69 ml_9_309 mi_X9_underNow ty_78 rfl (t_X9_underNow  hp) (Nat.le_of_ble_eq_true rfl) ⟨rfl, rfl⟩ ⟨Nat.le_of_ble_eq_true rfl, Nat.le_of_ble_eq_true rfl⟩ (fun v_69 h_69 hp => ?_)
          refine x_i2l hC dX9_mixAir_72 ?_
          refine s_callVv (avs := [.long v_69.toInt64]) (st := []) hC dX9_mixAir_73 ml_9_321 mi_X9_mix ty_78 rfl (t_X9_mix  hp) (Nat.le_of_ble_eq_true rfl) ⟨rfl, rfl⟩ ⟨Nat.le_of_ble_eq_true rfl, Nat.le_of_ble_eq_true rfl⟩ (fun h_73 hp => ?_)
          refine x_iinc (u := i2_59 + 1) (lv' := [(2, .int (i2_59 + 1)), (0, .ref 78), (1, .int i1_49)]) hC dX9_mixAir_76 (lm 2 rfl) (congrArg _ ic_1) (by decide) rfl ?_
          refine x_goto (tgt := 59) hC dX9_mixAir_79 (by decide) ?_
          exact x_subk [1, 2, 0] rfl hp
    · have hp := hp.2 hc
      refine x_aload_n hC dX9_mixAir_31 (lm 0 rfl) ?_
      refine x_iload_n hC dX9_mixAir_32 (lm 1 rfl) ?_
      refine s_callVv (avs := [.int i1_26]) (st := []) hC dX9_mixAir_33 ml_9_325 mi_X9_mixNear ty_78 rfl (t_X9_mixNear  hp) (Nat.le_of_ble_eq_true rfl) ⟨rfl, rfl⟩ ⟨Nat.le_of_ble_eq_true rfl, Nat.le_of_ble_eq_true rfl⟩ (fun h_33 hp => ?_)
      refine x_aload_n hC dX9_mixAir_36 (lm 0 rfl) ?_
      refine x_iload_n hC dX9_mixAir_37 (lm 1 rfl) ?_
      refine s_callVv (avs := [.int i1_26]) (st := []) hC dX9_mixAir_38 ml_9_328 mi_X9_mixFar ty_78 rfl (t_X9_mixFar  hp) (Nat.le_of_ble_eq_true rfl) ⟨rfl, rfl⟩ ⟨Nat.le_of_ble_eq_true rfl, Nat.le_of_ble_eq_true rfl⟩ (fun h_38 hp => ?_)
      refine x_iinc (u := i1_26 + 1) (lv' := [(1, .int (i1_26 + 1)), (0, .ref 78)]) hC dX9_mixAir_41 (lm 1 rfl) (congrArg _ ic_1) (by decide) rfl ?_
      refine x_goto (tgt := 26) hC dX9_mixAir_44 (by decide) ?_
      exact x_subk [1, 0] rfl hp
  · have hp := hp.2 hc
    refine x_aload_n hC dX9_mixAir_8 (lm 0 rfl) ?_
    refine x_aload_n hC dX9_mixAir_9 (lm 0 rfl) ?_
    refine x_iload_n hC dX9_mixAir_10 (lm 1 rfl) ?_
    refine s_callVi (avs := [.int i1_2]) (st := [.ref 78]) hC dX9_mixAir_11 ml_9_293 mi_X9_aboutNow ty_78 rfl (t_X9_aboutNow  hp) (Nat.le_of_ble_eq_true rfl) ⟨rfl, rfl⟩ ⟨Nat.le_of_ble_eq_true rfl, Nat.le_of_ble_eq_true rfl⟩ (fun v_11 h_11 hp => ?_)
    refine x_i2l hC dX9_mixAir_14 ?_
    refine s_callVv (avs := [.long v_11.toInt64]) (st := []) hC dX9_mixAir_15 ml_9_321 mi_X9_mix ty_78 rfl (t_X9_mix  hp) (Nat.le_of_ble_eq_true rfl) ⟨rfl, rfl⟩ ⟨Nat.le_of_ble_eq_true rfl, Nat.le_of_ble_eq_true rfl⟩ (fun h_15 hp => ?_)
    refine x_iinc (u := i1_2 + 1) (lv' := [(1, .int (i1_2 + 1)), (0, .ref 78)]) hC dX9_mixAir_18 (lm 1 rfl) (congrArg _ ic_1) (by decide) rfl ?_
    refine x_goto (tgt := 2) hC dX9_mixAir_21 (by decide) ?_
    exact x_subk [1, 0] rfl hp
theorem dX9_digest_0 : decode cX9_digest 0 = .ok (.aload_n 0, 1) := by decide +kernel
theorem dX9_digest_1 : decode cX9_digest 1 = .ok (.ldc2_w 331, 3) := by decide +kernel
theorem dX9_digest_4 : decode cX9_digest 4 = .ok (.putfield 317, 3) := by decide +kernel
theorem dX9_digest_7 : decode cX9_digest 7 = .ok (.aload_n 0, 1) := by decide +kernel
theorem dX9_digest_8 : decode cX9_digest 8 = .ok (.invokevirtual 160, 3) := by decide +kernel
theorem dX9_digest_11 : decode cX9_digest 11 = .ok (.ifCond .eq 7, 3) := by decide +kernel
theorem dX9_digest_14 : decode cX9_digest 14 = .ok (.aload_n 0, 1) := by decide +kernel
theorem dX9_digest_15 : decode cX9_digest 15 = .ok (.invokevirtual 333, 3) := by decide +kernel
theorem dX9_digest_18 : decode cX9_digest 18 = .ok (.iconst 0, 1) := by decide +kernel
theorem dX9_digest_19 : decode cX9_digest 19 = .ok (.istore_n 1, 1) := by decide +kernel
theorem dX9_digest_20 : decode cX9_digest 20 = .ok (.iload_n 1, 1) := by decide +kernel
theorem dX9_digest_21 : decode cX9_digest 21 = .ok (.aload_n 0, 1) := by decide +kernel
theorem dX9_digest_22 : decode cX9_digest 22 = .ok (.getfield 127, 3) := by decide +kernel
theorem dX9_digest_25 : decode cX9_digest 25 = .ok (.if_icmp .ge 20, 3) := by decide +kernel
theorem dX9_digest_28 : decode cX9_digest 28 = .ok (.aload_n 0, 1) := by decide +kernel
theorem dX9_digest_29 : decode cX9_digest 29 = .ok (.aload_n 0, 1) := by decide +kernel
theorem dX9_digest_30 : decode cX9_digest 30 = .ok (.getfield 7, 3) := by decide +kernel
theorem dX9_digest_33 : decode cX9_digest 33 = .ok (.iload_n 1, 1) := by decide +kernel
theorem dX9_digest_34 : decode cX9_digest 34 = .ok (.iaload, 1) := by decide +kernel
theorem dX9_digest_35 : decode cX9_digest 35 = .ok (.i2l, 1) := by decide +kernel
theorem dX9_digest_36 : decode cX9_digest 36 = .ok (.invokevirtual 321, 3) := by decide +kernel
theorem dX9_digest_39 : decode cX9_digest 39 = .ok (.iinc 1 1, 3) := by decide +kernel
theorem dX9_digest_42 : decode cX9_digest 42 = .ok (.goto (-22), 3) := by decide +kernel
theorem dX9_digest_45 : decode cX9_digest 45 = .ok (.iconst 0, 1) := by decide +kernel
theorem dX9_digest_46 : decode cX9_digest 46 = .ok (.istore_n 1, 1) := by decide +kernel
theorem dX9_digest_47 : decode cX9_digest 47 = .ok (.iload_n 1, 1) := by decide +kernel
theorem dX9_digest_48 : decode cX9_digest 48 = .ok (.bipush 10, 2) := by decide +kernel
theorem dX9_digest_50 : decode cX9_digest 50 = .ok (.if_icmp .ge 19, 3) := by decide +kernel
theorem dX9_digest_53 : decode cX9_digest 53 = .ok (.aload_n 0, 1) := by decide +kernel
theorem dX9_digest_54 : decode cX9_digest 54 = .ok (.aload_n 0, 1) := by decide +kernel
theorem dX9_digest_55 : decode cX9_digest 55 = .ok (.iload_n 1, 1) := by decide +kernel
theorem dX9_digest_56 : decode cX9_digest 56 = .ok (.invokevirtual 312, 3) := by decide +kernel
theorem dX9_digest_59 : decode cX9_digest 59 = .ok (.i2l, 1) := by decide +kernel
theorem dX9_digest_60 : decode cX9_digest 60 = .ok (.invokevirtual 321, 3) := by decide +kernel
theorem dX9_digest_63 : decode cX9_digest 63 = .ok (.iinc 1 1, 3) := by decide +kernel
theorem dX9_digest_66 : decode cX9_digest 66 = .ok (.goto (-19), 3) := by decide +kernel
theorem dX9_digest_69 : decode cX9_digest 69 = .ok (.aload_n 0, 1) := by decide +kernel
theorem dX9_digest_70 : decode cX9_digest 70 = .ok (.getfield 317, 3) := by decide +kernel
theorem dX9_digest_73 : decode cX9_digest 73 = .ok (.lreturn, 1) := by decide +kernel
abbrev rm_X9_digest : Room := { frames := 5, cells := 0, slots := 0, locals := 111 }
def P_X9_digest_j18 (_q0 : Nat) (h : HP)  (Q : Int64 → HP → Prop) : Prop := Lp2 (fun X_20 (i1_20 : Int32) (h_20 : HP) => (((h_20.1 78 6) ≤ i1_20) → (Lp2 (fun X_47 (i1_47 : Int32) (h_47 : HP) => ((10 ≤ i1_47) → Q h_47.2.2 h_47) ∧ ((¬ 10 ≤ i1_47) → (P_X9_howMany i1_47 h_47 (fun (v_56 : Int32) (h_56 : HP) => P_X9_mix v_56.toInt64 h_56 (fun (h_60 : HP) => X_47 (i1_47 + 1) h_60))))) 0 h_20)) ∧ ((¬ (h_20.1 78 6) ≤ i1_20) → ((vp_in i1_20 9) ∧ (P_X9_mix ((h_20.1 79 i1_20.toNatClampNeg).toInt64) h_20 (fun (h_36 : HP) => X_20 (i1_20 + 1) h_36))))) 0 h
def P_X9_digest  (h : HP) (Q : Int64 → HP → Prop) : Prop := P_X9_isAir (sl h (1543 : Int64)) (fun (v_8 : Int32) (h_8 : HP) => ((v_8 = 0) → P_X9_digest_j18 78 h_8 Q) ∧ ((¬ v_8 = 0) → (P_X9_mixAir h_8 (fun (h_15 : HP) => P_X9_digest_j18 78 h_15 Q))))
set_option maxHeartbeats 4000000 in
theorem l_X9_digest_j18  {h : HP}  {Q : Int64 → HP → Prop} {C : Cx} (hC : xOk C cX9_digest yX9_digest.cls 2 rm_X9_digest (some .long)) (hE : xEnd C gM SH (pL Q))   (hp : P_X9_digest_j18 78 h  Q) : SW C gM 18 [(0, .ref 78)] [] h := by
  unfold P_X9_digest_j18 at hp
  refine x_iconst hC dX9_digest_18 ic_0 ?_
  refine x_istore_n (lv' := [(1, .int 0), (0, .ref 78)]) hC dX9_digest_19 (by decide) rfl ?_
  refine x_subk (lv' := [(0, .ref 78), (1, .int 0)]) [1, 0] rfl ?_
  refine hp (fun i1_20 h_20 => SW C gM 20 [(0, .ref 78), (1, .int i1_20)] [] h_20) (fun i1_20 h_20 hp => ?_)
  refine x_iload_n hC dX9_digest_20 (lm 1 rfl) ?_
  refine x_aload_n hC dX9_digest_21 (lm 0 rfl) ?_
  refine s_getI hC dX9_digest_22 fk_9_127 ty_78 ?_
  refine x_icmp_ge (tgt := 45) hC dX9_digest_25 (by decide) (fun hc => ?_) (fun hc => ?_)
  · have hp := hp.1 hc
    refine x_iconst hC dX9_digest_45 ic_0 ?_
    refine x_istore_n (lv' := [(1, .int 0), (0, .ref 78)]) hC dX9_digest_46 (by decide) rfl ?_
    refine x_subk (lv' := [(0, .ref 78), (1, .int 0)]) [1, 0] rfl ?_
    refine hp (fun i1_47 h_47 => SW C gM 47 [(0, .ref 78), (1, .int i1_47)] [] h_47) (fun i1_47 h_47 hp => ?_)
    refine x_iload_n hC dX9_digest_47 (lm 1 rfl) ?_
    refine x_bipush hC dX9_digest_48 bp_10 ?_
    refine x_icmp_ge (tgt := 69) hC dX9_digest_50 (by decide) (fun hc => ?_) (fun hc => ?_)
    · have hp := hp.1 hc
      refine x_aload_n hC dX9_digest_69 (lm 0 rfl) ?_
      refine s_getL hC dX9_digest_70 fk_9_317 ty_78 ?_
      exact x_lret hC hE dX9_digest_73 ⟨_, _, rfl, rfl, hp⟩
    · have hp := hp.2 hc
      refine x_aload_n hC dX9_digest_53 (lm 0 rfl) ?_
      refine x_aload_n hC dX9_digest_54 (lm 0 rfl) ?_
      refine x_iload_n hC dX9_digest_55 (lm 1 rfl) ?_
      refine s_callVi (avs := [.int i1_47]) (st := [.ref 78]) hC dX9_digest_56 ml_9_312 mi_X9_howMany ty_78 rfl (t_X9_howMany  hp) (Nat.le_of_ble_eq_true rfl) ⟨rfl, rfl⟩ ⟨Nat.le_of_ble_eq_true rfl, Nat.le_of_ble_eq_true rfl⟩ (fun v_56 h_56 hp => ?_)
      refine x_i2l hC dX9_digest_59 ?_
      refine s_callVv (avs := [.long v_56.toInt64]) (st := []) hC dX9_digest_60 ml_9_321 mi_X9_mix ty_78 rfl (t_X9_mix  hp) (Nat.le_of_ble_eq_true rfl) ⟨rfl, rfl⟩ ⟨Nat.le_of_ble_eq_true rfl, Nat.le_of_ble_eq_true rfl⟩ (fun h_60 hp => ?_)
      refine x_iinc (u := i1_47 + 1) (lv' := [(1, .int (i1_47 + 1)), (0, .ref 78)]) hC dX9_digest_63 (lm 1 rfl) (congrArg _ ic_1) (by decide) rfl ?_
      refine x_goto (tgt := 47) hC dX9_digest_66 (by decide) ?_
      exact x_subk [1, 0] rfl hp
  · have hp := hp.2 hc
    refine x_aload_n hC dX9_digest_28 (lm 0 rfl) ?_
    refine x_aload_n hC dX9_digest_29 (lm 0 rfl) ?_
    refine s_getR (r := 79) hC dX9_digest_30 fk_9_7 ty_78 (fr_9_7 ty_78).1 ?_
    refine x_iload_n hC dX9_digest_33 (lm 1 rfl) ?_
    obtain ⟨ho, hp⟩ := hp
    refine s_iald hC dX9_digest_34 ((fr_9_7 ty_78).2) ho ?_
    refine x_i2l hC dX9_digest_35 ?_
    refine s_callVv (avs := [.long ((h_20.1 79 i1_20.toNatClampNeg).toInt64)]) (st := []) hC dX9_digest_36 ml_9_321 mi_X9_mix ty_78 rfl (t_X9_mix  hp) (Nat.le_of_ble_eq_true rfl) ⟨rfl, rfl⟩ ⟨Nat.le_of_ble_eq_true rfl, Nat.le_of_ble_eq_true rfl⟩ (fun h_36 hp => ?_)
    refine x_iinc (u := i1_20 + 1) (lv' := [(1, .int (i1_20 + 1)), (0, .ref 78)]) hC dX9_digest_39 (lm 1 rfl) (congrArg _ ic_1) (by decide) rfl ?_
    refine x_goto (tgt := 20) hC dX9_digest_42 (by decide) ?_
    exact x_subk [1, 0] rfl hp
set_option maxHeartbeats 4000000 in
theorem t_X9_digest  {h : HP} {Q : Int64 → HP → Prop}  (hp : P_X9_digest  h Q) : MT yX9_digest cX9_digest 2 (some .long) rm_X9_digest [.ref 78] gM SH (emb h) (pL Q) := by
  refine MT.of (by decide +kernel) (Nat.le_of_ble_eq_true rfl) (fun C hC hE => ?_)
  show SW C gM 0 [(0, .ref 78)] [] h
  unfold P_X9_digest at hp
  refine x_aload_n hC dX9_digest_0 (lm 0 rfl) ?_
  refine x_ldc2 hC dX9_digest_1 lc_9_331 ?_
  refine s_putL hC dX9_digest_4 fk_9_317 ty_78 ?_
  refine x_aload_n hC dX9_digest_7 (lm 0 rfl) ?_
  refine s_callVi (avs := []) (st := []) hC dX9_digest_8 ml_9_160 mi_X9_isAir ty_78 rfl (t_X9_isAir  hp) (Nat.le_of_ble_eq_true rfl) ⟨rfl, rfl⟩ ⟨Nat.le_of_ble_eq_true rfl, Nat.le_of_ble_eq_true rfl⟩ (fun v_8 h_8 hp => ?_)
  refine x_if_eq (tgt := 18) hC dX9_digest_11 (by decide) (fun hc => ?_) (fun hc => ?_)
  · have hp := hp.1 hc
    exact x_subk [0] rfl (l_X9_digest_j18 hC hE   hp)
  · have hp := hp.2 hc
    refine x_aload_n hC dX9_digest_14 (lm 0 rfl) ?_
    refine s_callVv (avs := []) (st := []) hC dX9_digest_15 ml_9_333 mi_X9_mixAir ty_78 rfl (t_X9_mixAir  hp) (Nat.le_of_ble_eq_true rfl) ⟨rfl, rfl⟩ ⟨Nat.le_of_ble_eq_true rfl, Nat.le_of_ble_eq_true rfl⟩ (fun h_15 hp => ?_)
    exact x_subk [0] rfl (l_X9_digest_j18 hC hE   hp)
