theorem dX8_within_0 : decode cX8_within 0 = .ok (.iload_n 0, 1) := by decide +kernel
theorem dX8_within_1 : decode cX8_within 1 = .ok (.iload_n 1, 1) := by decide +kernel
theorem dX8_within_2 : decode cX8_within 2 = .ok (.if_icmp .lt 12, 3) := by decide +kernel
theorem dX8_within_5 : decode cX8_within 5 = .ok (.iload_n 0, 1) := by decide +kernel
theorem dX8_within_6 : decode cX8_within 6 = .ok (.iload_n 2, 1) := by decide +kernel
theorem dX8_within_7 : decode cX8_within 7 = .ok (.if_icmp .gt 7, 3) := by decide +kernel
theorem dX8_within_10 : decode cX8_within 10 = .ok (.iconst 1, 1) := by decide +kernel
theorem dX8_within_11 : decode cX8_within 11 = .ok (.goto 4, 3) := by decide +kernel
theorem dX8_within_14 : decode cX8_within 14 = .ok (.iconst 0, 1) := by decide +kernel
theorem dX8_within_15 : decode cX8_within 15 = .ok (.ireturn, 1) := by decide +kernel
abbrev rm_X8_within : Room := { frames := 0, cells := 0, slots := 0, locals := 0 }
def P_X8_within (i0 : Int32) (i1 : Int32) (i2 : Int32) (h : HP) (Q : Int32 → HP → Prop) : Prop := ((i0 < i1) → Q 0 h) ∧ ((¬ i0 < i1) → (((i2 < i0) → Q 0 h) ∧ ((¬ i2 < i0) → Q 1 h)))
set_option maxHeartbeats 4000000 in
theorem t_X8_within {i0 : Int32} {i1 : Int32} {i2 : Int32} {h : HP} {Q : Int32 → HP → Prop}  (hp : P_X8_within i0 i1 i2 h Q) : MT yX8_within cX8_within 3 (some .boolean) rm_X8_within [.int i0, .int i1, .int i2] gC SH (emb h) (pI Q) := by
  refine MT.of (by decide +kernel) (Nat.le_of_ble_eq_true rfl) (fun C hC hE => ?_)
  show SW C gC 0 [(0, .int i0), (1, .int i1), (2, .int i2)] [] h
  unfold P_X8_within at hp
  refine x_iload_n hC dX8_within_0 (lm 0 rfl) ?_
  refine x_iload_n hC dX8_within_1 (lm 1 rfl) ?_
  refine x_icmp_lt (tgt := 14) hC dX8_within_2 (by decide) (fun hc => ?_) (fun hc => ?_)
  · have hp := hp.1 hc
    refine x_iconst hC dX8_within_14 ic_0 ?_
    exact x_zret hC hE dX8_within_15 (Or.inl rfl) ⟨_, _, rfl, rfl, hp⟩
  · have hp := hp.2 hc
    refine x_iload_n hC dX8_within_5 (lm 0 rfl) ?_
    refine x_iload_n hC dX8_within_6 (lm 2 rfl) ?_
    refine x_icmp_gt (tgt := 14) hC dX8_within_7 (by decide) (fun hc => ?_) (fun hc => ?_)
    · have hp := hp.1 hc
      refine x_iconst hC dX8_within_14 ic_0 ?_
      exact x_zret hC hE dX8_within_15 (Or.inl rfl) ⟨_, _, rfl, rfl, hp⟩
    · have hp := hp.2 hc
      refine x_iconst hC dX8_within_10 ic_1 ?_
      refine x_goto (tgt := 15) hC dX8_within_11 (by decide) ?_
      exact x_zret hC hE dX8_within_15 (Or.inr rfl) ⟨_, _, rfl, rfl, hp⟩
theorem dX5_at_0 : decode cX5_at 0 = .ok (.iload_n 1, 1) := by decide +kernel
theorem dX5_at_1 : decode cX5_at 1 = .ok (.iconst 0, 1) := by decide +kernel
theorem dX5_at_2 : decode cX5_at 2 = .ok (.aload_n 0, 1) := by decide +kernel
theorem dX5_at_3 : decode cX5_at 3 = .ok (.getfield 15, 3) := by decide +kernel
theorem dX5_at_6 : decode cX5_at 6 = .ok (.iconst 1, 1) := by decide +kernel
theorem dX5_at_7 : decode cX5_at 7 = .ok (.isub, 1) := by decide +kernel
theorem dX5_at_8 : decode cX5_at 8 = .ok (.invokestatic 25, 3) := by decide +kernel
theorem dX5_at_11 : decode cX5_at 11 = .ok (.ifCond .eq 12, 3) := by decide +kernel
theorem dX5_at_14 : decode cX5_at 14 = .ok (.aload_n 0, 1) := by decide +kernel
theorem dX5_at_15 : decode cX5_at 15 = .ok (.getfield 11, 3) := by decide +kernel
theorem dX5_at_18 : decode cX5_at 18 = .ok (.iload_n 1, 1) := by decide +kernel
theorem dX5_at_19 : decode cX5_at 19 = .ok (.iaload, 1) := by decide +kernel
theorem dX5_at_20 : decode cX5_at 20 = .ok (.goto 4, 3) := by decide +kernel
theorem dX5_at_23 : decode cX5_at 23 = .ok (.iconst (-1), 1) := by decide +kernel
theorem dX5_at_24 : decode cX5_at 24 = .ok (.ireturn, 1) := by decide +kernel
abbrev rm_X5_at : Room := { frames := 1, cells := 0, slots := 0, locals := 22 }
def P_X5_at (i1 : Int32) (h : HP) (Q : Int32 → HP → Prop) : Prop := P_X8_within i1 0 ((h.1 1 1) - 1) h (fun (v_8 : Int32) (h_8 : HP) => ((v_8 = 0) → (Q (-1) h_8)) ∧ ((¬ v_8 = 0) → ((vp_in i1 9) ∧ (Q (h_8.1 2 i1.toNatClampNeg) h_8))))
set_option maxHeartbeats 4000000 in
theorem t_X5_at {i1 : Int32} {h : HP} {Q : Int32 → HP → Prop}  (hp : P_X5_at i1 h Q) : MT yX5_at cX5_at 2 (some .int) rm_X5_at [.ref 1, .int i1] gC SH (emb h) (pI Q) := by
  refine MT.of (by decide +kernel) (Nat.le_of_ble_eq_true rfl) (fun C hC hE => ?_)
  show SW C gC 0 [(0, .ref 1), (1, .int i1)] [] h
  unfold P_X5_at at hp
  refine x_iload_n hC dX5_at_0 (lm 1 rfl) ?_
  refine x_iconst hC dX5_at_1 ic_0 ?_
  refine x_aload_n hC dX5_at_2 (lm 0 rfl) ?_
  refine s_getI hC dX5_at_3 fk_5_15 ty_1 ?_
  refine x_iconst hC dX5_at_6 ic_1 ?_
  refine x_isub hC dX5_at_7 ?_
  refine s_callNi (avs := [.int i1, .int 0, .int ((h.1 1 1) - 1)]) (st := []) hC dX5_at_8 nl_5_25 ms_X8_within rfl (t_X8_within  hp) (Nat.le_of_ble_eq_true rfl) ⟨rfl, rfl⟩ ⟨Nat.le_of_ble_eq_true rfl, Nat.le_of_ble_eq_true rfl⟩ (fun v_8 h_8 hp => ?_)
  refine x_if_eq (tgt := 23) hC dX5_at_11 (by decide) (fun hc => ?_) (fun hc => ?_)
  · have hp := hp.1 hc
    refine x_iconst hC dX5_at_23 ic_m1 ?_
    exact x_iret hC hE dX5_at_24 ⟨_, _, rfl, rfl, hp⟩
  · have hp := hp.2 hc
    refine x_aload_n hC dX5_at_14 (lm 0 rfl) ?_
    refine s_getR (r := 2) hC dX5_at_15 fk_5_11 ty_1 (fr_5_0 ty_1).1 ?_
    refine x_iload_n hC dX5_at_18 (lm 1 rfl) ?_
    obtain ⟨ho, hp⟩ := hp
    refine s_iald hC dX5_at_19 ((fr_5_0 ty_1).2) ho ?_
    refine x_goto (tgt := 24) hC dX5_at_20 (by decide) ?_
    exact x_iret hC hE dX5_at_24 ⟨_, _, rfl, rfl, hp⟩
theorem dX5_digitAt_0 : decode cX5_digitAt 0 = .ok (.aload_n 0, 1) := by decide +kernel
theorem dX5_digitAt_1 : decode cX5_digitAt 1 = .ok (.iload_n 1, 1) := by decide +kernel
theorem dX5_digitAt_2 : decode cX5_digitAt 2 = .ok (.invokevirtual 33, 3) := by decide +kernel
theorem dX5_digitAt_5 : decode cX5_digitAt 5 = .ok (.bipush 48, 2) := by decide +kernel
theorem dX5_digitAt_7 : decode cX5_digitAt 7 = .ok (.isub, 1) := by decide +kernel
theorem dX5_digitAt_8 : decode cX5_digitAt 8 = .ok (.ireturn, 1) := by decide +kernel
abbrev rm_X5_digitAt : Room := { frames := 2, cells := 0, slots := 0, locals := 43 }
def P_X5_digitAt (i1 : Int32) (h : HP) (Q : Int32 → HP → Prop) : Prop := P_X5_at i1 h (fun (v_2 : Int32) (h_2 : HP) => Q (v_2 - 48) h_2)
set_option maxHeartbeats 4000000 in
theorem t_X5_digitAt {i1 : Int32} {h : HP} {Q : Int32 → HP → Prop}  (hp : P_X5_digitAt i1 h Q) : MT yX5_digitAt cX5_digitAt 2 (some .int) rm_X5_digitAt [.ref 1, .int i1] gC SH (emb h) (pI Q) := by
  refine MT.of (by decide +kernel) (Nat.le_of_ble_eq_true rfl) (fun C hC hE => ?_)
  show SW C gC 0 [(0, .ref 1), (1, .int i1)] [] h
  unfold P_X5_digitAt at hp
  refine x_aload_n hC dX5_digitAt_0 (lm 0 rfl) ?_
  refine x_iload_n hC dX5_digitAt_1 (lm 1 rfl) ?_
  refine s_callVi (avs := [.int i1]) (st := []) hC dX5_digitAt_2 ml_5_33 mi_X5_at ty_1 rfl (t_X5_at  hp) (Nat.le_of_ble_eq_true rfl) ⟨rfl, rfl⟩ ⟨Nat.le_of_ble_eq_true rfl, Nat.le_of_ble_eq_true rfl⟩ (fun v_2 h_2 hp => ?_)
  refine x_bipush hC dX5_digitAt_5 bp_48 ?_
  refine x_isub hC dX5_digitAt_7 ?_
  exact x_iret hC hE dX5_digitAt_8 ⟨_, _, rfl, rfl, hp⟩
theorem dX0_read_0 : decode cX0_read 0 = .ok (.aload_n 0, 1) := by decide +kernel
theorem dX0_read_1 : decode cX0_read 1 = .ok (.iconst 1, 1) := by decide +kernel
theorem dX0_read_2 : decode cX0_read 2 = .ok (.putfield 7, 3) := by decide +kernel
theorem dX0_read_5 : decode cX0_read 5 = .ok (.aload_n 0, 1) := by decide +kernel
theorem dX0_read_6 : decode cX0_read 6 = .ok (.aload_n 1, 1) := by decide +kernel
theorem dX0_read_7 : decode cX0_read 7 = .ok (.iconst 0, 1) := by decide +kernel
theorem dX0_read_8 : decode cX0_read 8 = .ok (.invokevirtual 13, 3) := by decide +kernel
theorem dX0_read_11 : decode cX0_read 11 = .ok (.putfield 19, 3) := by decide +kernel
theorem dX0_read_14 : decode cX0_read 14 = .ok (.aload_n 0, 1) := by decide +kernel
theorem dX0_read_15 : decode cX0_read 15 = .ok (.aload_n 1, 1) := by decide +kernel
theorem dX0_read_16 : decode cX0_read 16 = .ok (.iconst 2, 1) := by decide +kernel
theorem dX0_read_17 : decode cX0_read 17 = .ok (.invokevirtual 13, 3) := by decide +kernel
theorem dX0_read_20 : decode cX0_read 20 = .ok (.putfield 23, 3) := by decide +kernel
theorem dX0_read_23 : decode cX0_read 23 = .ok (.aload_n 0, 1) := by decide +kernel
theorem dX0_read_24 : decode cX0_read 24 = .ok (.aload_n 1, 1) := by decide +kernel
theorem dX0_read_25 : decode cX0_read 25 = .ok (.iconst 4, 1) := by decide +kernel
theorem dX0_read_26 : decode cX0_read 26 = .ok (.invokevirtual 13, 3) := by decide +kernel
theorem dX0_read_29 : decode cX0_read 29 = .ok (.putfield 26, 3) := by decide +kernel
theorem dX0_read_32 : decode cX0_read 32 = .ok (.aload_n 0, 1) := by decide +kernel
theorem dX0_read_33 : decode cX0_read 33 = .ok (.aload_n 1, 1) := by decide +kernel
theorem dX0_read_34 : decode cX0_read 34 = .ok (.bipush 6, 2) := by decide +kernel
theorem dX0_read_36 : decode cX0_read 36 = .ok (.invokevirtual 13, 3) := by decide +kernel
theorem dX0_read_39 : decode cX0_read 39 = .ok (.putfield 29, 3) := by decide +kernel
theorem dX0_read_42 : decode cX0_read 42 = .ok (.aload_n 0, 1) := by decide +kernel
theorem dX0_read_43 : decode cX0_read 43 = .ok (.iconst 0, 1) := by decide +kernel
theorem dX0_read_44 : decode cX0_read 44 = .ok (.putfield 32, 3) := by decide +kernel
theorem dX0_read_47 : decode cX0_read 47 = .ok (.return_, 1) := by decide +kernel
abbrev rm_X0_read : Room := { frames := 3, cells := 0, slots := 0, locals := 64 }
def P_X0_read  (h : HP) (Q : HP → Prop) : Prop := P_X5_digitAt 0 (si h 3 0 1) (fun (v_8 : Int32) (h_8 : HP) => P_X5_digitAt 2 (si h_8 3 1 v_8) (fun (v_17 : Int32) (h_17 : HP) => P_X5_digitAt 4 (si h_17 3 2 v_17) (fun (v_26 : Int32) (h_26 : HP) => P_X5_digitAt 6 (si h_26 3 3 v_26) (fun (v_36 : Int32) (h_36 : HP) => Q (si (si h_36 3 4 v_36) 3 5 0)))))
set_option maxHeartbeats 4000000 in
theorem t_X0_read  {h : HP} {Q : HP → Prop}  (hp : P_X0_read  h Q) : MT yX0_read cX0_read 2 none rm_X0_read [.ref 3, .ref 1] gC SH (emb h) (pV Q) := by
  refine MT.of (by decide +kernel) (Nat.le_of_ble_eq_true rfl) (fun C hC hE => ?_)
  show SW C gC 0 [(0, .ref 3), (1, .ref 1)] [] h
  unfold P_X0_read at hp
  refine x_aload_n hC dX0_read_0 (lm 0 rfl) ?_
  refine x_iconst hC dX0_read_1 ic_1 ?_
  refine s_putZ hC dX0_read_2 fk_0_7 rfl rfl (Or.inr rfl) ty_3 ?_
  refine x_aload_n hC dX0_read_5 (lm 0 rfl) ?_
  refine x_aload_n hC dX0_read_6 (lm 1 rfl) ?_
  refine x_iconst hC dX0_read_7 ic_0 ?_
  refine s_callVi (avs := [.int 0]) (st := [.ref 3]) hC dX0_read_8 ml_0_13 mi_X5_digitAt ty_1 rfl (t_X5_digitAt  hp) (Nat.le_of_ble_eq_true rfl) ⟨rfl, rfl⟩ ⟨Nat.le_of_ble_eq_true rfl, Nat.le_of_ble_eq_true rfl⟩ (fun v_8 h_8 hp => ?_)
  refine s_putI hC dX0_read_11 fk_0_19 rfl rfl ty_3 ?_
  refine x_aload_n hC dX0_read_14 (lm 0 rfl) ?_
  refine x_aload_n hC dX0_read_15 (lm 1 rfl) ?_
  refine x_iconst hC dX0_read_16 ic_2 ?_
  refine s_callVi (avs := [.int 2]) (st := [.ref 3]) hC dX0_read_17 ml_0_13 mi_X5_digitAt ty_1 rfl (t_X5_digitAt  hp) (Nat.le_of_ble_eq_true rfl) ⟨rfl, rfl⟩ ⟨Nat.le_of_ble_eq_true rfl, Nat.le_of_ble_eq_true rfl⟩ (fun v_17 h_17 hp => ?_)
  refine s_putI hC dX0_read_20 fk_0_23 rfl rfl ty_3 ?_
  refine x_aload_n hC dX0_read_23 (lm 0 rfl) ?_
  refine x_aload_n hC dX0_read_24 (lm 1 rfl) ?_
  refine x_iconst hC dX0_read_25 ic_4 ?_
  refine s_callVi (avs := [.int 4]) (st := [.ref 3]) hC dX0_read_26 ml_0_13 mi_X5_digitAt ty_1 rfl (t_X5_digitAt  hp) (Nat.le_of_ble_eq_true rfl) ⟨rfl, rfl⟩ ⟨Nat.le_of_ble_eq_true rfl, Nat.le_of_ble_eq_true rfl⟩ (fun v_26 h_26 hp => ?_)
  refine s_putI hC dX0_read_29 fk_0_26 rfl rfl ty_3 ?_
  refine x_aload_n hC dX0_read_32 (lm 0 rfl) ?_
  refine x_aload_n hC dX0_read_33 (lm 1 rfl) ?_
  refine x_bipush hC dX0_read_34 bp_6 ?_
  refine s_callVi (avs := [.int 6]) (st := [.ref 3]) hC dX0_read_36 ml_0_13 mi_X5_digitAt ty_1 rfl (t_X5_digitAt  hp) (Nat.le_of_ble_eq_true rfl) ⟨rfl, rfl⟩ ⟨Nat.le_of_ble_eq_true rfl, Nat.le_of_ble_eq_true rfl⟩ (fun v_36 h_36 hp => ?_)
  refine s_putI hC dX0_read_39 fk_0_29 rfl rfl ty_3 ?_
  refine x_aload_n hC dX0_read_42 (lm 0 rfl) ?_
  refine x_iconst hC dX0_read_43 ic_0 ?_
  refine s_putI hC dX0_read_44 fk_0_32 rfl rfl ty_3 ?_
  exact x_vret hC hE dX0_read_47 ⟨_, rfl, rfl, hp⟩
theorem dX0_left_0 : decode cX0_left 0 = .ok (.aload_n 0, 1) := by decide +kernel
theorem dX0_left_1 : decode cX0_left 1 = .ok (.getfield 19, 3) := by decide +kernel
theorem dX0_left_4 : decode cX0_left 4 = .ok (.aload_n 0, 1) := by decide +kernel
theorem dX0_left_5 : decode cX0_left 5 = .ok (.getfield 23, 3) := by decide +kernel
theorem dX0_left_8 : decode cX0_left 8 = .ok (.iadd, 1) := by decide +kernel
theorem dX0_left_9 : decode cX0_left 9 = .ok (.istore_n 1, 1) := by decide +kernel
theorem dX0_left_10 : decode cX0_left 10 = .ok (.iload_n 1, 1) := by decide +kernel
theorem dX0_left_11 : decode cX0_left 11 = .ok (.ifCond .le 12, 3) := by decide +kernel
theorem dX0_left_14 : decode cX0_left 14 = .ok (.aload_n 0, 1) := by decide +kernel
theorem dX0_left_15 : decode cX0_left 15 = .ok (.getfield 32, 3) := by decide +kernel
theorem dX0_left_18 : decode cX0_left 18 = .ok (.iload_n 1, 1) := by decide +kernel
theorem dX0_left_19 : decode cX0_left 19 = .ok (.irem, 1) := by decide +kernel
theorem dX0_left_20 : decode cX0_left 20 = .ok (.goto 4, 3) := by decide +kernel
theorem dX0_left_23 : decode cX0_left 23 = .ok (.iconst 0, 1) := by decide +kernel
theorem dX0_left_24 : decode cX0_left 24 = .ok (.istore_n 2, 1) := by decide +kernel
theorem dX0_left_25 : decode cX0_left 25 = .ok (.iload_n 2, 1) := by decide +kernel
theorem dX0_left_26 : decode cX0_left 26 = .ok (.aload_n 0, 1) := by decide +kernel
theorem dX0_left_27 : decode cX0_left 27 = .ok (.getfield 19, 3) := by decide +kernel
theorem dX0_left_30 : decode cX0_left 30 = .ok (.if_icmp .ge 12, 3) := by decide +kernel
theorem dX0_left_33 : decode cX0_left 33 = .ok (.aload_n 0, 1) := by decide +kernel
theorem dX0_left_34 : decode cX0_left 34 = .ok (.getfield 19, 3) := by decide +kernel
theorem dX0_left_37 : decode cX0_left 37 = .ok (.iload_n 2, 1) := by decide +kernel
theorem dX0_left_38 : decode cX0_left 38 = .ok (.isub, 1) := by decide +kernel
theorem dX0_left_39 : decode cX0_left 39 = .ok (.goto 4, 3) := by decide +kernel
theorem dX0_left_42 : decode cX0_left 42 = .ok (.iconst 0, 1) := by decide +kernel
theorem dX0_left_43 : decode cX0_left 43 = .ok (.ireturn, 1) := by decide +kernel
abbrev rm_X0_left : Room := { frames := 0, cells := 0, slots := 0, locals := 0 }
def P_X0_left_j25 (_q0 : Nat) (i2 : Int32) (h : HP)  (Q : Int32 → HP → Prop) : Prop := (((h.1 3 1) ≤ i2) → Q 0 h) ∧ ((¬ (h.1 3 1) ≤ i2) → (Q ((h.1 3 1) - i2) h))
def P_X0_left  (h : HP) (Q : Int32 → HP → Prop) : Prop := ((((h.1 3 1) + (h.1 3 2)) ≤ 0) → P_X0_left_j25 3 0 h Q) ∧ ((¬ ((h.1 3 1) + (h.1 3 2)) ≤ 0) → ((¬ ((h.1 3 1) + (h.1 3 2)) = 0) ∧ (P_X0_left_j25 3 ((h.1 3 5) - (h.1 3 5) / ((h.1 3 1) + (h.1 3 2)) * ((h.1 3 1) + (h.1 3 2))) h Q)))
set_option maxHeartbeats 4000000 in
theorem l_X0_left_j25 {i2 : Int32} {h : HP}  {Q : Int32 → HP → Prop} {C : Cx} (hC : xOk C cX0_left yX0_left.cls 3 rm_X0_left (some .int)) (hE : xEnd C gC SH (pI Q))   (hp : P_X0_left_j25 3 i2 h  Q) : SW C gC 25 [(0, .ref 3), (2, .int i2)] [] h := by
  unfold P_X0_left_j25 at hp
  refine x_iload_n hC dX0_left_25 (lm 1 rfl) ?_
  refine x_aload_n hC dX0_left_26 (lm 0 rfl) ?_
  refine s_getI hC dX0_left_27 fk_0_19 ty_3 ?_
  refine x_icmp_ge (tgt := 42) hC dX0_left_30 (by decide) (fun hc => ?_) (fun hc => ?_)
  · have hp := hp.1 hc
    refine x_iconst hC dX0_left_42 ic_0 ?_
    exact x_iret hC hE dX0_left_43 ⟨_, _, rfl, rfl, hp⟩
  · have hp := hp.2 hc
    refine x_aload_n hC dX0_left_33 (lm 0 rfl) ?_
    refine s_getI hC dX0_left_34 fk_0_19 ty_3 ?_
    refine x_iload_n hC dX0_left_37 (lm 1 rfl) ?_
    refine x_isub hC dX0_left_38 ?_
    refine x_goto (tgt := 43) hC dX0_left_39 (by decide) ?_
    exact x_iret hC hE dX0_left_43 ⟨_, _, rfl, rfl, hp⟩
set_option maxHeartbeats 4000000 in
theorem t_X0_left  {h : HP} {Q : Int32 → HP → Prop}  (hp : P_X0_left  h Q) : MT yX0_left cX0_left 3 (some .int) rm_X0_left [.ref 3] gC SH (emb h) (pI Q) := by
  refine MT.of (by decide +kernel) (Nat.le_of_ble_eq_true rfl) (fun C hC hE => ?_)
  show SW C gC 0 [(0, .ref 3)] [] h
  unfold P_X0_left at hp
  refine x_aload_n hC dX0_left_0 (lm 0 rfl) ?_
  refine s_getI hC dX0_left_1 fk_0_19 ty_3 ?_
  refine x_aload_n hC dX0_left_4 (lm 0 rfl) ?_
  refine s_getI hC dX0_left_5 fk_0_23 ty_3 ?_
  refine x_iadd hC dX0_left_8 ?_
  refine x_istore_n (lv' := [(1, .int ((h.1 3 1) + (h.1 3 2))), (0, .ref 3)]) hC dX0_left_9 (by decide) rfl ?_
  refine x_iload_n hC dX0_left_10 (lm 0 rfl) ?_
  refine x_if_le (tgt := 23) hC dX0_left_11 (by decide) (fun hc => ?_) (fun hc => ?_)
  · have hp := hp.1 hc
    refine x_iconst hC dX0_left_23 ic_0 ?_
    refine x_istore_n (lv' := [(2, .int 0), (1, .int ((h.1 3 1) + (h.1 3 2))), (0, .ref 3)]) hC dX0_left_24 (by decide) rfl ?_
    exact x_subk [2, 0] rfl (l_X0_left_j25 hC hE   hp)
  · have hp := hp.2 hc
    refine x_aload_n hC dX0_left_14 (lm 1 rfl) ?_
    refine s_getI hC dX0_left_15 fk_0_32 ty_3 ?_
    refine x_iload_n hC dX0_left_18 (lm 0 rfl) ?_
    obtain ⟨ho, hp⟩ := hp
    refine x_irem hC dX0_left_19 ho ?_
    refine x_goto (tgt := 24) hC dX0_left_20 (by decide) ?_
    refine x_istore_n (lv' := [(2, .int ((h.1 3 5) - (h.1 3 5) / ((h.1 3 1) + (h.1 3 2)) * ((h.1 3 1) + (h.1 3 2)))), (1, .int ((h.1 3 1) + (h.1 3 2))), (0, .ref 3)]) hC dX0_left_24 (by decide) rfl ?_
    exact x_subk [2, 0] rfl (l_X0_left_j25 hC hE   hp)
theorem dX0_isAwake_0 : decode cX0_isAwake 0 = .ok (.aload_n 0, 1) := by decide +kernel
theorem dX0_isAwake_1 : decode cX0_isAwake 1 = .ok (.invokevirtual 35, 3) := by decide +kernel
theorem dX0_isAwake_4 : decode cX0_isAwake 4 = .ok (.ifCond .le 7, 3) := by decide +kernel
theorem dX0_isAwake_7 : decode cX0_isAwake 7 = .ok (.iconst 1, 1) := by decide +kernel
theorem dX0_isAwake_8 : decode cX0_isAwake 8 = .ok (.goto 4, 3) := by decide +kernel
theorem dX0_isAwake_11 : decode cX0_isAwake 11 = .ok (.iconst 0, 1) := by decide +kernel
theorem dX0_isAwake_12 : decode cX0_isAwake 12 = .ok (.ireturn, 1) := by decide +kernel
abbrev rm_X0_isAwake : Room := { frames := 1, cells := 0, slots := 0, locals := 22 }
def P_X0_isAwake  (h : HP) (Q : Int32 → HP → Prop) : Prop := P_X0_left h (fun (v_1 : Int32) (h_1 : HP) => ((v_1 ≤ 0) → Q 0 h_1) ∧ ((¬ v_1 ≤ 0) → Q 1 h_1))
set_option maxHeartbeats 4000000 in
theorem t_X0_isAwake  {h : HP} {Q : Int32 → HP → Prop}  (hp : P_X0_isAwake  h Q) : MT yX0_isAwake cX0_isAwake 1 (some .boolean) rm_X0_isAwake [.ref 3] gC SH (emb h) (pI Q) := by
  refine MT.of (by decide +kernel) (Nat.le_of_ble_eq_true rfl) (fun C hC hE => ?_)
  show SW C gC 0 [(0, .ref 3)] [] h
  unfold P_X0_isAwake at hp
  refine x_aload_n hC dX0_isAwake_0 (lm 0 rfl) ?_
  refine s_callVi (avs := []) (st := []) hC dX0_isAwake_1 ml_0_35 mi_X0_left ty_3 rfl (t_X0_left  hp) (Nat.le_of_ble_eq_true rfl) ⟨rfl, rfl⟩ ⟨Nat.le_of_ble_eq_true rfl, Nat.le_of_ble_eq_true rfl⟩ (fun v_1 h_1 hp => ?_)
  refine x_if_le (tgt := 11) hC dX0_isAwake_4 (by decide) (fun hc => ?_) (fun hc => ?_)
  · have hp := hp.1 hc
    refine x_iconst hC dX0_isAwake_11 ic_0 ?_
    exact x_zret hC hE dX0_isAwake_12 (Or.inl rfl) ⟨_, _, rfl, rfl, hp⟩
  · have hp := hp.2 hc
    refine x_iconst hC dX0_isAwake_7 ic_1 ?_
    refine x_goto (tgt := 12) hC dX0_isAwake_8 (by decide) ?_
    exact x_zret hC hE dX0_isAwake_12 (Or.inr rfl) ⟨_, _, rfl, rfl, hp⟩
theorem dX8_flag_0 : decode cX8_flag 0 = .ok (.iload_n 0, 1) := by decide +kernel
theorem dX8_flag_1 : decode cX8_flag 1 = .ok (.ifCond .eq 7, 3) := by decide +kernel
theorem dX8_flag_4 : decode cX8_flag 4 = .ok (.iconst 1, 1) := by decide +kernel
theorem dX8_flag_5 : decode cX8_flag 5 = .ok (.goto 4, 3) := by decide +kernel
theorem dX8_flag_8 : decode cX8_flag 8 = .ok (.iconst 0, 1) := by decide +kernel
theorem dX8_flag_9 : decode cX8_flag 9 = .ok (.ireturn, 1) := by decide +kernel
abbrev rm_X8_flag : Room := { frames := 0, cells := 0, slots := 0, locals := 0 }
def P_X8_flag (i0 : Int32) (h : HP) (Q : Int32 → HP → Prop) : Prop := ((i0 = 0) → Q 0 h) ∧ ((¬ i0 = 0) → Q 1 h)
set_option maxHeartbeats 4000000 in
theorem t_X8_flag {i0 : Int32} {h : HP} {Q : Int32 → HP → Prop}  (hp : P_X8_flag i0 h Q) : MT yX8_flag cX8_flag 1 (some .int) rm_X8_flag [.int i0] gC SH (emb h) (pI Q) := by
  refine MT.of (by decide +kernel) (Nat.le_of_ble_eq_true rfl) (fun C hC hE => ?_)
  show SW C gC 0 [(0, .int i0)] [] h
  unfold P_X8_flag at hp
  refine x_iload_n hC dX8_flag_0 (lm 0 rfl) ?_
  refine x_if_eq (tgt := 8) hC dX8_flag_1 (by decide) (fun hc => ?_) (fun hc => ?_)
  · have hp := hp.1 hc
    refine x_iconst hC dX8_flag_8 ic_0 ?_
    exact x_iret hC hE dX8_flag_9 ⟨_, _, rfl, rfl, hp⟩
  · have hp := hp.2 hc
    refine x_iconst hC dX8_flag_4 ic_1 ?_
    refine x_goto (tgt := 9) hC dX8_flag_5 (by decide) ?_
    exact x_iret hC hE dX8_flag_9 ⟨_, _, rfl, rfl, hp⟩
theorem dX0_tell_0 : decode cX0_tell 0 = .ok (.iload_n 1, 1) := by decide +kernel
theorem dX0_tell_1 : decode cX0_tell 1 = .ok (.tableswitch 72 0 5 #[39, 44, 49, 54, 59, 64], 39) := by decide +kernel
theorem dX0_tell_40 : decode cX0_tell 40 = .ok (.aload_n 0, 1) := by decide +kernel
theorem dX0_tell_41 : decode cX0_tell 41 = .ok (.getfield 19, 3) := by decide +kernel
theorem dX0_tell_44 : decode cX0_tell 44 = .ok (.ireturn, 1) := by decide +kernel
theorem dX0_tell_45 : decode cX0_tell 45 = .ok (.aload_n 0, 1) := by decide +kernel
theorem dX0_tell_46 : decode cX0_tell 46 = .ok (.getfield 23, 3) := by decide +kernel
theorem dX0_tell_49 : decode cX0_tell 49 = .ok (.ireturn, 1) := by decide +kernel
theorem dX0_tell_50 : decode cX0_tell 50 = .ok (.aload_n 0, 1) := by decide +kernel
theorem dX0_tell_51 : decode cX0_tell 51 = .ok (.getfield 26, 3) := by decide +kernel
theorem dX0_tell_54 : decode cX0_tell 54 = .ok (.ireturn, 1) := by decide +kernel
theorem dX0_tell_55 : decode cX0_tell 55 = .ok (.aload_n 0, 1) := by decide +kernel
theorem dX0_tell_56 : decode cX0_tell 56 = .ok (.getfield 29, 3) := by decide +kernel
theorem dX0_tell_59 : decode cX0_tell 59 = .ok (.ireturn, 1) := by decide +kernel
theorem dX0_tell_60 : decode cX0_tell 60 = .ok (.aload_n 0, 1) := by decide +kernel
theorem dX0_tell_61 : decode cX0_tell 61 = .ok (.getfield 32, 3) := by decide +kernel
theorem dX0_tell_64 : decode cX0_tell 64 = .ok (.ireturn, 1) := by decide +kernel
theorem dX0_tell_65 : decode cX0_tell 65 = .ok (.aload_n 0, 1) := by decide +kernel
theorem dX0_tell_66 : decode cX0_tell 66 = .ok (.invokevirtual 39, 3) := by decide +kernel
theorem dX0_tell_69 : decode cX0_tell 69 = .ok (.invokestatic 43, 3) := by decide +kernel
theorem dX0_tell_72 : decode cX0_tell 72 = .ok (.ireturn, 1) := by decide +kernel
theorem dX0_tell_73 : decode cX0_tell 73 = .ok (.aload_n 0, 1) := by decide +kernel
theorem dX0_tell_74 : decode cX0_tell 74 = .ok (.invokevirtual 35, 3) := by decide +kernel
theorem dX0_tell_77 : decode cX0_tell 77 = .ok (.ireturn, 1) := by decide +kernel
abbrev rm_X0_tell : Room := { frames := 2, cells := 0, slots := 0, locals := 42 }
def P_X0_tell (i1 : Int32) (h : HP) (Q : Int32 → HP → Prop) : Prop := (i1.toInt = 0 → (Q (h.1 3 1) h)) ∧ (i1.toInt = 1 → (Q (h.1 3 2) h)) ∧ (i1.toInt = 2 → (Q (h.1 3 3) h)) ∧ (i1.toInt = 3 → (Q (h.1 3 4) h)) ∧ (i1.toInt = 4 → (Q (h.1 3 5) h)) ∧ (i1.toInt = 5 → (P_X0_isAwake h (fun (v_66 : Int32) (h_66 : HP) => P_X8_flag v_66 h_66 (fun (v_69 : Int32) (h_69 : HP) => Q v_69 h_69)))) ∧ ((i1.toInt < 0 ∨ 5 < i1.toInt) → (P_X0_left h (fun (v_74 : Int32) (h_74 : HP) => Q v_74 h_74)))
set_option maxHeartbeats 4000000 in
theorem t_X0_tell {i1 : Int32} {h : HP} {Q : Int32 → HP → Prop}  (hp : P_X0_tell i1 h Q) : MT yX0_tell cX0_tell 2 (some .int) rm_X0_tell [.ref 3, .int i1] gC SH (emb h) (pI Q) := by
  refine MT.of (by decide +kernel) (Nat.le_of_ble_eq_true rfl) (fun C hC hE => ?_)
  show SW C gC 0 [(0, .ref 3), (1, .int i1)] [] h
  unfold P_X0_tell at hp
  refine x_iload_n hC dX0_tell_0 (lm 1 rfl) ?_
  refine x_tsw (tgt := 73) hC dX0_tell_1 [40, 45, 50, 55, 60, 65] (by decide) (by decide) (by decide) (fun hc => ?_) (fun i t hi hx => ?_)
  · have hp := hp.2.2.2.2.2.2 hc
    refine x_aload_n hC dX0_tell_73 (lm 0 rfl) ?_
    refine s_callVi (avs := []) (st := []) hC dX0_tell_74 ml_0_35 mi_X0_left ty_3 rfl (t_X0_left  hp) (Nat.le_of_ble_eq_true rfl) ⟨rfl, rfl⟩ ⟨Nat.le_of_ble_eq_true rfl, Nat.le_of_ble_eq_true rfl⟩ (fun v_74 h_74 hp => ?_)
    exact x_iret hC hE dX0_tell_77 ⟨_, _, rfl, rfl, hp⟩
  · match i, hi, hx with
    | 0, hi, hx =>
      cases hi
      have hp := hp.1 hx
      refine x_aload_n hC dX0_tell_40 (lm 0 rfl) ?_
      refine s_getI hC dX0_tell_41 fk_0_19 ty_3 ?_
      exact x_iret hC hE dX0_tell_44 ⟨_, _, rfl, rfl, hp⟩
    | 1, hi, hx =>
      cases hi
      have hp := hp.2.1 hx
      refine x_aload_n hC dX0_tell_45 (lm 0 rfl) ?_
      refine s_getI hC dX0_tell_46 fk_0_23 ty_3 ?_
      exact x_iret hC hE dX0_tell_49 ⟨_, _, rfl, rfl, hp⟩
    | 2, hi, hx =>
      cases hi
      have hp := hp.2.2.1 hx
      refine x_aload_n hC dX0_tell_50 (lm 0 rfl) ?_
      refine s_getI hC dX0_tell_51 fk_0_26 ty_3 ?_
      exact x_iret hC hE dX0_tell_54 ⟨_, _, rfl, rfl, hp⟩
    | 3, hi, hx =>
      cases hi
      have hp := hp.2.2.2.1 hx
      refine x_aload_n hC dX0_tell_55 (lm 0 rfl) ?_
      refine s_getI hC dX0_tell_56 fk_0_29 ty_3 ?_
      exact x_iret hC hE dX0_tell_59 ⟨_, _, rfl, rfl, hp⟩
    | 4, hi, hx =>
      cases hi
      have hp := hp.2.2.2.2.1 hx
      refine x_aload_n hC dX0_tell_60 (lm 0 rfl) ?_
      refine s_getI hC dX0_tell_61 fk_0_32 ty_3 ?_
      exact x_iret hC hE dX0_tell_64 ⟨_, _, rfl, rfl, hp⟩
    | 5, hi, hx =>
      cases hi
      have hp := hp.2.2.2.2.2.1 hx
      refine x_aload_n hC dX0_tell_65 (lm 0 rfl) ?_
      refine s_callVi (avs := []) (st := []) hC dX0_tell_66 ml_0_39 mi_X0_isAwake ty_3 rfl (t_X0_isAwake  hp) (Nat.le_of_ble_eq_true rfl) ⟨rfl, rfl⟩ ⟨Nat.le_of_ble_eq_true rfl, Nat.le_of_ble_eq_true rfl⟩ (fun v_66 h_66 hp => ?_)
      refine s_callNi (avs := [.int v_66]) (st := []) hC dX0_tell_69 nl_0_43 ms_X8_flag rfl (t_X8_flag  hp) (Nat.le_of_ble_eq_true rfl) ⟨rfl, rfl⟩ ⟨Nat.le_of_ble_eq_true rfl, Nat.le_of_ble_eq_true rfl⟩ (fun v_69 h_69 hp => ?_)
      exact x_iret hC hE dX0_tell_72 ⟨_, _, rfl, rfl, hp⟩
    | i + 6, hi, hx => exact absurd hi (by simp)
theorem dX4_clear_0 : decode cX4_clear 0 = .ok (.aload_n 0, 1) := by decide +kernel
theorem dX4_clear_1 : decode cX4_clear 1 = .ok (.iconst 0, 1) := by decide +kernel
theorem dX4_clear_2 : decode cX4_clear 2 = .ok (.putfield 15, 3) := by decide +kernel
theorem dX4_clear_5 : decode cX4_clear 5 = .ok (.return_, 1) := by decide +kernel
abbrev rm_X4_clear : Room := { frames := 0, cells := 0, slots := 0, locals := 0 }
def P_X4_clear (q0 : Nat) (h : HP) (Q : HP → Prop) : Prop := Q (si h q0 1 0)
set_option maxHeartbeats 4000000 in
theorem t_X4_clear {q0 : Nat} {h : HP} {Q : HP → Prop} (hq0 : Ty gC q0 4 0) (hp : P_X4_clear q0 h Q) : MT yX4_clear cX4_clear 1 none rm_X4_clear [.ref q0] gC SH (emb h) (pV Q) := by
  refine MT.of (by decide +kernel) (Nat.le_of_ble_eq_true rfl) (fun C hC hE => ?_)
  show SW C gC 0 [(0, .ref q0)] [] h
  unfold P_X4_clear at hp
  refine x_aload_n hC dX4_clear_0 (lm 0 rfl) ?_
  refine x_iconst hC dX4_clear_1 ic_0 ?_
  refine s_putI hC dX4_clear_2 fk_4_15 rfl rfl hq0 ?_
  exact x_vret hC hE dX4_clear_5 ⟨_, rfl, rfl, hp⟩
theorem dX1_vanish_0 : decode cX1_vanish 0 = .ok (.aload_n 0, 1) := by decide +kernel
theorem dX1_vanish_1 : decode cX1_vanish 1 = .ok (.iconst 0, 1) := by decide +kernel
theorem dX1_vanish_2 : decode cX1_vanish 2 = .ok (.putfield 26, 3) := by decide +kernel
theorem dX1_vanish_5 : decode cX1_vanish 5 = .ok (.aload_n 0, 1) := by decide +kernel
theorem dX1_vanish_6 : decode cX1_vanish 6 = .ok (.getfield 12, 3) := by decide +kernel
theorem dX1_vanish_9 : decode cX1_vanish 9 = .ok (.invokevirtual 30, 3) := by decide +kernel
theorem dX1_vanish_12 : decode cX1_vanish 12 = .ok (.return_, 1) := by decide +kernel
abbrev rm_X1_vanish : Room := { frames := 1, cells := 0, slots := 0, locals := 20 }
def P_X1_vanish (q0 : Nat) (h : HP) (Q : HP → Prop) : Prop := P_X4_clear (q0 + 1) (si h q0 2 0) (fun (h_9 : HP) => Q h_9)
set_option maxHeartbeats 4000000 in
theorem t_X1_vanish {q0 : Nat} {h : HP} {Q : HP → Prop} (hq0 : Ty gC q0 1 0) (hp : P_X1_vanish q0 h Q) : MT yX1_vanish cX1_vanish 1 none rm_X1_vanish [.ref q0] gC SH (emb h) (pV Q) := by
  refine MT.of (by decide +kernel) (Nat.le_of_ble_eq_true rfl) (fun C hC hE => ?_)
  show SW C gC 0 [(0, .ref q0)] [] h
  unfold P_X1_vanish at hp
  refine x_aload_n hC dX1_vanish_0 (lm 0 rfl) ?_
  refine x_iconst hC dX1_vanish_1 ic_0 ?_
  refine s_putZ hC dX1_vanish_2 fk_1_26 rfl rfl (Or.inl rfl) hq0 ?_
  refine x_aload_n hC dX1_vanish_5 (lm 0 rfl) ?_
  refine s_getR (r := q0 + 1) hC dX1_vanish_6 fk_1_12 hq0 (fr_1_1 hq0).1 ?_
  refine s_callVv (avs := []) (st := []) hC dX1_vanish_9 ml_1_30 mi_X4_clear ((fr_1_1 hq0).2) rfl (t_X4_clear ((fr_1_1 hq0).2) hp) (Nat.le_of_ble_eq_true rfl) ⟨rfl, rfl⟩ ⟨Nat.le_of_ble_eq_true rfl, Nat.le_of_ble_eq_true rfl⟩ (fun h_9 hp => ?_)
  exact x_vret hC hE dX1_vanish_12 ⟨_, rfl, rfl, hp⟩
theorem dX8_slot_0 : decode cX8_slot 0 = .ok (.iload_n 0, 1) := by decide +kernel
theorem dX8_slot_1 : decode cX8_slot 1 = .ok (.bipush 15, 2) := by decide +kernel
theorem dX8_slot_3 : decode cX8_slot 3 = .ok (.iand, 1) := by decide +kernel
theorem dX8_slot_4 : decode cX8_slot 4 = .ok (.ireturn, 1) := by decide +kernel
abbrev rm_X8_slot : Room := { frames := 0, cells := 0, slots := 0, locals := 0 }
def P_X8_slot (i0 : Int32) (h : HP) (Q : Int32 → HP → Prop) : Prop := Q (i0 &&& 15) h
set_option maxHeartbeats 4000000 in
theorem t_X8_slot {i0 : Int32} {h : HP} {Q : Int32 → HP → Prop}  (hp : P_X8_slot i0 h Q) : MT yX8_slot cX8_slot 1 (some .int) rm_X8_slot [.int i0] gC SH (emb h) (pI Q) := by
  refine MT.of (by decide +kernel) (Nat.le_of_ble_eq_true rfl) (fun C hC hE => ?_)
  show SW C gC 0 [(0, .int i0)] [] h
  unfold P_X8_slot at hp
  refine x_iload_n hC dX8_slot_0 (lm 0 rfl) ?_
  refine x_bipush hC dX8_slot_1 bp_15 ?_
  refine x_iand hC dX8_slot_3 ?_
  exact x_iret hC hE dX8_slot_4 ⟨_, _, rfl, rfl, hp⟩
theorem dX4_put_0 : decode cX4_put 0 = .ok (.bipush 9, 2) := by decide +kernel
theorem dX4_put_2 : decode cX4_put 2 = .ok (.istore_n 2, 1) := by decide +kernel
theorem dX4_put_3 : decode cX4_put 3 = .ok (.iload_n 2, 1) := by decide +kernel
theorem dX4_put_4 : decode cX4_put 4 = .ok (.ifCond .le 23, 3) := by decide +kernel
theorem dX4_put_7 : decode cX4_put 7 = .ok (.aload_n 0, 1) := by decide +kernel
theorem dX4_put_8 : decode cX4_put 8 = .ok (.getfield 11, 3) := by decide +kernel
theorem dX4_put_11 : decode cX4_put 11 = .ok (.iload_n 2, 1) := by decide +kernel
theorem dX4_put_12 : decode cX4_put 12 = .ok (.aload_n 0, 1) := by decide +kernel
theorem dX4_put_13 : decode cX4_put 13 = .ok (.getfield 11, 3) := by decide +kernel
theorem dX4_put_16 : decode cX4_put 16 = .ok (.iload_n 2, 1) := by decide +kernel
theorem dX4_put_17 : decode cX4_put 17 = .ok (.iconst 1, 1) := by decide +kernel
theorem dX4_put_18 : decode cX4_put 18 = .ok (.isub, 1) := by decide +kernel
theorem dX4_put_19 : decode cX4_put 19 = .ok (.iaload, 1) := by decide +kernel
theorem dX4_put_20 : decode cX4_put 20 = .ok (.iastore, 1) := by decide +kernel
theorem dX4_put_21 : decode cX4_put 21 = .ok (.iinc 2 (-1), 3) := by decide +kernel
theorem dX4_put_24 : decode cX4_put 24 = .ok (.goto (-21), 3) := by decide +kernel
theorem dX4_put_27 : decode cX4_put 27 = .ok (.aload_n 0, 1) := by decide +kernel
theorem dX4_put_28 : decode cX4_put 28 = .ok (.getfield 11, 3) := by decide +kernel
theorem dX4_put_31 : decode cX4_put 31 = .ok (.iconst 0, 1) := by decide +kernel
theorem dX4_put_32 : decode cX4_put 32 = .ok (.iload_n 1, 1) := by decide +kernel
theorem dX4_put_33 : decode cX4_put 33 = .ok (.iastore, 1) := by decide +kernel
theorem dX4_put_34 : decode cX4_put 34 = .ok (.aload_n 0, 1) := by decide +kernel
theorem dX4_put_35 : decode cX4_put 35 = .ok (.getfield 15, 3) := by decide +kernel
theorem dX4_put_38 : decode cX4_put 38 = .ok (.bipush 10, 2) := by decide +kernel
theorem dX4_put_40 : decode cX4_put 40 = .ok (.if_icmp .ge 13, 3) := by decide +kernel
theorem dX4_put_43 : decode cX4_put 43 = .ok (.aload_n 0, 1) := by decide +kernel
theorem dX4_put_44 : decode cX4_put 44 = .ok (.dup, 1) := by decide +kernel
theorem dX4_put_45 : decode cX4_put 45 = .ok (.getfield 15, 3) := by decide +kernel
theorem dX4_put_48 : decode cX4_put 48 = .ok (.iconst 1, 1) := by decide +kernel
theorem dX4_put_49 : decode cX4_put 49 = .ok (.iadd, 1) := by decide +kernel
theorem dX4_put_50 : decode cX4_put 50 = .ok (.putfield 15, 3) := by decide +kernel
theorem dX4_put_53 : decode cX4_put 53 = .ok (.return_, 1) := by decide +kernel
abbrev rm_X4_put : Room := { frames := 0, cells := 0, slots := 0, locals := 0 }
def P_X4_put (q0 : Nat) (i1 : Int32) (h : HP) (Q : HP → Prop) : Prop := Lp2 (fun X_3 (i2_3 : Int32) (h_3 : HP) => ((i2_3 ≤ 0) → (((10 ≤ ((si h_3 (q0 + 1) 0 i1).1 q0 1)) → (Q (si h_3 (q0 + 1) 0 i1))) ∧ ((¬ 10 ≤ ((si h_3 (q0 + 1) 0 i1).1 q0 1)) → (Q (si (si h_3 (q0 + 1) 0 i1) q0 1 (((si h_3 (q0 + 1) 0 i1).1 q0 1) + 1)))))) ∧ ((¬ i2_3 ≤ 0) → ((vp_in (i2_3 - 1) 10) ∧ ((vp_in i2_3 10) ∧ (X_3 (i2_3 + (-1)) (si h_3 (q0 + 1) i2_3.toNatClampNeg (h_3.1 (q0 + 1) (i2_3 - 1).toNatClampNeg))))))) 9 h
set_option maxHeartbeats 4000000 in
theorem t_X4_put {q0 : Nat} {i1 : Int32} {h : HP} {Q : HP → Prop} (hq0 : Ty gC q0 4 0) (hp : P_X4_put q0 i1 h Q) : MT yX4_put cX4_put 3 none rm_X4_put [.ref q0, .int i1] gC SH (emb h) (pV Q) := by
  refine MT.of (by decide +kernel) (Nat.le_of_ble_eq_true rfl) (fun C hC hE => ?_)
  show SW C gC 0 [(0, .ref q0), (1, .int i1)] [] h
  unfold P_X4_put at hp
  refine x_bipush hC dX4_put_0 bp_9 ?_
  refine x_istore_n (lv' := [(2, .int 9), (0, .ref q0), (1, .int i1)]) hC dX4_put_2 (by decide) rfl ?_
  refine x_subk (lv' := [(0, .ref q0), (1, .int i1), (2, .int 9)]) [1, 2, 0] rfl ?_
  refine hp (fun i2_3 h_3 => SW C gC 3 [(0, .ref q0), (1, .int i1), (2, .int i2_3)] [] h_3) (fun i2_3 h_3 hp => ?_)
  refine x_iload_n hC dX4_put_3 (lm 2 rfl) ?_
  refine x_if_le (tgt := 27) hC dX4_put_4 (by decide) (fun hc => ?_) (fun hc => ?_)
  · have hp := hp.1 hc
    refine x_aload_n hC dX4_put_27 (lm 0 rfl) ?_
    refine s_getR (r := q0 + 1) hC dX4_put_28 fk_4_11 hq0 (fr_4_0 hq0).1 ?_
    refine x_iconst hC dX4_put_31 ic_0 ?_
    refine x_iload_n hC dX4_put_32 (lm 1 rfl) ?_
    refine s_iast hC dX4_put_33 ((fr_4_0 hq0).2) (vi (by decide)) ?_
    refine x_aload_n hC dX4_put_34 (lm 0 rfl) ?_
    refine s_getI hC dX4_put_35 fk_4_15 hq0 ?_
    refine x_bipush hC dX4_put_38 bp_10 ?_
    refine x_icmp_ge (tgt := 53) hC dX4_put_40 (by decide) (fun hc => ?_) (fun hc => ?_)
    · have hp := hp.1 hc
      exact x_vret hC hE dX4_put_53 ⟨_, rfl, rfl, hp⟩
    · have hp := hp.2 hc
      refine x_aload_n hC dX4_put_43 (lm 0 rfl) ?_
      refine x_dup hC dX4_put_44 rfl ?_
      refine s_getI hC dX4_put_45 fk_4_15 hq0 ?_
      refine x_iconst hC dX4_put_48 ic_1 ?_
      refine x_iadd hC dX4_put_49 ?_
      refine s_putI hC dX4_put_50 fk_4_15 rfl rfl hq0 ?_
      exact x_vret hC hE dX4_put_53 ⟨_, rfl, rfl, hp⟩
  · have hp := hp.2 hc
    refine x_aload_n hC dX4_put_7 (lm 0 rfl) ?_
    refine s_getR (r := q0 + 1) hC dX4_put_8 fk_4_11 hq0 (fr_4_0 hq0).1 ?_
    refine x_iload_n hC dX4_put_11 (lm 2 rfl) ?_
    refine x_aload_n hC dX4_put_12 (lm 0 rfl) ?_
    refine s_getR (r := q0 + 1) hC dX4_put_13 fk_4_11 hq0 (fr_4_0 hq0).1 ?_
    refine x_iload_n hC dX4_put_16 (lm 2 rfl) ?_
    refine x_iconst hC dX4_put_17 ic_1 ?_
    refine x_isub hC dX4_put_18 ?_
    obtain ⟨ho, hp⟩ := hp
    refine s_iald hC dX4_put_19 ((fr_4_0 hq0).2) ho ?_
    obtain ⟨ho, hp⟩ := hp
    refine s_iast hC dX4_put_20 ((fr_4_0 hq0).2) ho ?_
    refine x_iinc (u := i2_3 + (-1)) (lv' := [(2, .int (i2_3 + (-1))), (0, .ref q0), (1, .int i1)]) hC dX4_put_21 (lm 2 rfl) (congrArg _ ic_m1) (by decide) rfl ?_
    refine x_goto (tgt := 3) hC dX4_put_24 (by decide) ?_
    exact x_subk [1, 2, 0] rfl hp
theorem dX1_release_0 : decode cX1_release 0 = .ok (.aload_n 0, 1) := by decide +kernel
theorem dX1_release_1 : decode cX1_release 1 = .ok (.getfield 12, 3) := by decide +kernel
theorem dX1_release_4 : decode cX1_release 4 = .ok (.iload_n 1, 1) := by decide +kernel
theorem dX1_release_5 : decode cX1_release 5 = .ok (.invokevirtual 114, 3) := by decide +kernel
theorem dX1_release_8 : decode cX1_release 8 = .ok (.aload_n 0, 1) := by decide +kernel
theorem dX1_release_9 : decode cX1_release 9 = .ok (.getfield 22, 3) := by decide +kernel
theorem dX1_release_12 : decode cX1_release 12 = .ok (.dup, 1) := by decide +kernel
theorem dX1_release_13 : decode cX1_release 13 = .ok (.getfield 117, 3) := by decide +kernel
theorem dX1_release_16 : decode cX1_release 16 = .ok (.iconst 1, 1) := by decide +kernel
theorem dX1_release_17 : decode cX1_release 17 = .ok (.iadd, 1) := by decide +kernel
theorem dX1_release_18 : decode cX1_release 18 = .ok (.putfield 117, 3) := by decide +kernel
theorem dX1_release_21 : decode cX1_release 21 = .ok (.return_, 1) := by decide +kernel
abbrev rm_X1_release : Room := { frames := 1, cells := 0, slots := 0, locals := 22 }
def P_X1_release (q0 : Nat) (i1 : Int32) (h : HP) (Q : HP → Prop) : Prop := P_X4_put (q0 + 1) i1 h (fun (h_5 : HP) => Q (si h_5 4 4 ((h_5.1 4 4) + 1)))
set_option maxHeartbeats 4000000 in
theorem t_X1_release {q0 : Nat} {i1 : Int32} {h : HP} {Q : HP → Prop} (hq0 : Ty gC q0 1 0) (hp : P_X1_release q0 i1 h Q) : MT yX1_release cX1_release 2 none rm_X1_release [.ref q0, .int i1] gC SH (emb h) (pV Q) := by
  refine MT.of (by decide +kernel) (Nat.le_of_ble_eq_true rfl) (fun C hC hE => ?_)
  show SW C gC 0 [(0, .ref q0), (1, .int i1)] [] h
  unfold P_X1_release at hp
  refine x_aload_n hC dX1_release_0 (lm 0 rfl) ?_
  refine s_getR (r := q0 + 1) hC dX1_release_1 fk_1_12 hq0 (fr_1_1 hq0).1 ?_
  refine x_iload_n hC dX1_release_4 (lm 1 rfl) ?_
  refine s_callVv (avs := [.int i1]) (st := []) hC dX1_release_5 ml_1_114 mi_X4_put ((fr_1_1 hq0).2) rfl (t_X4_put ((fr_1_1 hq0).2) hp) (Nat.le_of_ble_eq_true rfl) ⟨rfl, rfl⟩ ⟨Nat.le_of_ble_eq_true rfl, Nat.le_of_ble_eq_true rfl⟩ (fun h_5 hp => ?_)
  refine x_aload_n hC dX1_release_8 (lm 0 rfl) ?_
  refine s_getR (r := 4) hC dX1_release_9 fk_1_22 hq0 (fr_1_0 hq0).1 ?_
  refine x_dup hC dX1_release_12 rfl ?_
  refine s_getI hC dX1_release_13 fk_1_117 ty_4 ?_
  refine x_iconst hC dX1_release_16 ic_1 ?_
  refine x_iadd hC dX1_release_17 ?_
  refine s_putI hC dX1_release_18 fk_1_117 rfl rfl ty_4 ?_
  exact x_vret hC hE dX1_release_21 ⟨_, rfl, rfl, hp⟩
theorem dX8_round_0 : decode cX8_round 0 = .ok (.iload_n 0, 1) := by decide +kernel
theorem dX8_round_1 : decode cX8_round 1 = .ok (.bipush 63, 2) := by decide +kernel
theorem dX8_round_3 : decode cX8_round 3 = .ok (.iand, 1) := by decide +kernel
theorem dX8_round_4 : decode cX8_round 4 = .ok (.ireturn, 1) := by decide +kernel
abbrev rm_X8_round : Room := { frames := 0, cells := 0, slots := 0, locals := 0 }
def P_X8_round (i0 : Int32) (h : HP) (Q : Int32 → HP → Prop) : Prop := Q (i0 &&& 63) h
set_option maxHeartbeats 4000000 in
theorem t_X8_round {i0 : Int32} {h : HP} {Q : Int32 → HP → Prop}  (hp : P_X8_round i0 h Q) : MT yX8_round cX8_round 1 (some .int) rm_X8_round [.int i0] gC SH (emb h) (pI Q) := by
  refine MT.of (by decide +kernel) (Nat.le_of_ble_eq_true rfl) (fun C hC hE => ?_)
  show SW C gC 0 [(0, .int i0)] [] h
  unfold P_X8_round at hp
  refine x_iload_n hC dX8_round_0 (lm 0 rfl) ?_
  refine x_bipush hC dX8_round_1 bp_63 ?_
  refine x_iand hC dX8_round_3 ?_
  exact x_iret hC hE dX8_round_4 ⟨_, _, rfl, rfl, hp⟩
theorem dX1_moveFrom_0 : decode cX1_moveFrom 0 = .ok (.iload_n 1, 1) := by decide +kernel
theorem dX1_moveFrom_1 : decode cX1_moveFrom 1 = .ok (.ifCond .gt 4, 3) := by decide +kernel
theorem dX1_moveFrom_4 : decode cX1_moveFrom 4 = .ok (.return_, 1) := by decide +kernel
theorem dX1_moveFrom_5 : decode cX1_moveFrom 5 = .ok (.iconst 0, 1) := by decide +kernel
theorem dX1_moveFrom_6 : decode cX1_moveFrom 6 = .ok (.istore_n 2, 1) := by decide +kernel
theorem dX1_moveFrom_7 : decode cX1_moveFrom 7 = .ok (.iload_n 2, 1) := by decide +kernel
theorem dX1_moveFrom_8 : decode cX1_moveFrom 8 = .ok (.iload_n 1, 1) := by decide +kernel
theorem dX1_moveFrom_9 : decode cX1_moveFrom 9 = .ok (.if_icmp .ge 53, 3) := by decide +kernel
theorem dX1_moveFrom_12 : decode cX1_moveFrom 12 = .ok (.iload_n 2, 1) := by decide +kernel
theorem dX1_moveFrom_13 : decode cX1_moveFrom 13 = .ok (.aload_n 0, 1) := by decide +kernel
theorem dX1_moveFrom_14 : decode cX1_moveFrom 14 = .ok (.getfield 40, 3) := by decide +kernel
theorem dX1_moveFrom_17 : decode cX1_moveFrom 17 = .ok (.if_icmp .ge 45, 3) := by decide +kernel
theorem dX1_moveFrom_20 : decode cX1_moveFrom 20 = .ok (.aload_n 0, 1) := by decide +kernel
theorem dX1_moveFrom_21 : decode cX1_moveFrom 21 = .ok (.getfield 46, 3) := by decide +kernel
theorem dX1_moveFrom_24 : decode cX1_moveFrom 24 = .ok (.iload_n 2, 1) := by decide +kernel
theorem dX1_moveFrom_25 : decode cX1_moveFrom 25 = .ok (.iadd, 1) := by decide +kernel
theorem dX1_moveFrom_26 : decode cX1_moveFrom 26 = .ok (.invokestatic 69, 3) := by decide +kernel
theorem dX1_moveFrom_29 : decode cX1_moveFrom 29 = .ok (.istore_n 3, 1) := by decide +kernel
theorem dX1_moveFrom_30 : decode cX1_moveFrom 30 = .ok (.aload_n 0, 1) := by decide +kernel
theorem dX1_moveFrom_31 : decode cX1_moveFrom 31 = .ok (.getfield 18, 3) := by decide +kernel
theorem dX1_moveFrom_34 : decode cX1_moveFrom 34 = .ok (.iload_n 3, 1) := by decide +kernel
theorem dX1_moveFrom_35 : decode cX1_moveFrom 35 = .ok (.iaload, 1) := by decide +kernel
theorem dX1_moveFrom_36 : decode cX1_moveFrom 36 = .ok (.ifCond .le 13, 3) := by decide +kernel
theorem dX1_moveFrom_39 : decode cX1_moveFrom 39 = .ok (.aload_n 0, 1) := by decide +kernel
theorem dX1_moveFrom_40 : decode cX1_moveFrom 40 = .ok (.aload_n 0, 1) := by decide +kernel
theorem dX1_moveFrom_41 : decode cX1_moveFrom 41 = .ok (.getfield 18, 3) := by decide +kernel
theorem dX1_moveFrom_44 : decode cX1_moveFrom 44 = .ok (.iload_n 3, 1) := by decide +kernel
theorem dX1_moveFrom_45 : decode cX1_moveFrom 45 = .ok (.iaload, 1) := by decide +kernel
theorem dX1_moveFrom_46 : decode cX1_moveFrom 46 = .ok (.invokevirtual 98, 3) := by decide +kernel
theorem dX1_moveFrom_49 : decode cX1_moveFrom 49 = .ok (.aload_n 0, 1) := by decide +kernel
theorem dX1_moveFrom_50 : decode cX1_moveFrom 50 = .ok (.getfield 18, 3) := by decide +kernel
theorem dX1_moveFrom_53 : decode cX1_moveFrom 53 = .ok (.iload_n 3, 1) := by decide +kernel
theorem dX1_moveFrom_54 : decode cX1_moveFrom 54 = .ok (.iconst (-1), 1) := by decide +kernel
theorem dX1_moveFrom_55 : decode cX1_moveFrom 55 = .ok (.iastore, 1) := by decide +kernel
theorem dX1_moveFrom_56 : decode cX1_moveFrom 56 = .ok (.iinc 2 1, 3) := by decide +kernel
theorem dX1_moveFrom_59 : decode cX1_moveFrom 59 = .ok (.goto (-52), 3) := by decide +kernel
theorem dX1_moveFrom_62 : decode cX1_moveFrom 62 = .ok (.aload_n 0, 1) := by decide +kernel
theorem dX1_moveFrom_63 : decode cX1_moveFrom 63 = .ok (.aload_n 0, 1) := by decide +kernel
theorem dX1_moveFrom_64 : decode cX1_moveFrom 64 = .ok (.getfield 46, 3) := by decide +kernel
theorem dX1_moveFrom_67 : decode cX1_moveFrom 67 = .ok (.iload_n 1, 1) := by decide +kernel
theorem dX1_moveFrom_68 : decode cX1_moveFrom 68 = .ok (.iadd, 1) := by decide +kernel
theorem dX1_moveFrom_69 : decode cX1_moveFrom 69 = .ok (.invokestatic 111, 3) := by decide +kernel
theorem dX1_moveFrom_72 : decode cX1_moveFrom 72 = .ok (.putfield 46, 3) := by decide +kernel
theorem dX1_moveFrom_75 : decode cX1_moveFrom 75 = .ok (.aload_n 0, 1) := by decide +kernel
theorem dX1_moveFrom_76 : decode cX1_moveFrom 76 = .ok (.iconst 0, 1) := by decide +kernel
theorem dX1_moveFrom_77 : decode cX1_moveFrom 77 = .ok (.putfield 55, 3) := by decide +kernel
theorem dX1_moveFrom_80 : decode cX1_moveFrom 80 = .ok (.return_, 1) := by decide +kernel
abbrev rm_X1_moveFrom : Room := { frames := 2, cells := 0, slots := 0, locals := 43 }
def P_X1_moveFrom_j62 (q0 : Nat) (i1 : Int32) (h : HP)  (Q : HP → Prop) : Prop := P_X8_round ((h.1 q0 6) + i1) h (fun (v_69 : Int32) (h_69 : HP) => Q (si (si h_69 q0 6 v_69) q0 9 0))
def P_X1_moveFrom (q0 : Nat) (i1 : Int32) (h : HP) (Q : HP → Prop) : Prop := ((0 < i1) → (Lp2 (fun X_7 (i2_7 : Int32) (h_7 : HP) => ((i1 ≤ i2_7) → P_X1_moveFrom_j62 q0 i1 h_7 Q) ∧ ((¬ i1 ≤ i2_7) → ((((h_7.1 q0 4) ≤ i2_7) → P_X1_moveFrom_j62 q0 i1 h_7 Q) ∧ ((¬ (h_7.1 q0 4) ≤ i2_7) → (P_X8_slot ((h_7.1 q0 6) + i2_7) h_7 (fun (v_26 : Int32) (h_26 : HP) => (vp_in v_26 16) ∧ ((((h_26.1 (q0 + 3) v_26.toNatClampNeg) ≤ 0) → ((vp_in v_26 16) ∧ (X_7 (i2_7 + 1) (si h_26 (q0 + 3) v_26.toNatClampNeg (-1))))) ∧ ((¬ (h_26.1 (q0 + 3) v_26.toNatClampNeg) ≤ 0) → ((vp_in v_26 16) ∧ (P_X1_release q0 (h_26.1 (q0 + 3) v_26.toNatClampNeg) h_26 (fun (h_46 : HP) => (vp_in v_26 16) ∧ (X_7 (i2_7 + 1) (si h_46 (q0 + 3) v_26.toNatClampNeg (-1)))))))))))))) 0 h)) ∧ ((¬ 0 < i1) → Q h)
set_option maxHeartbeats 4000000 in
theorem l_X1_moveFrom_j62 {q0 : Nat} {i1 : Int32} {h : HP}  {Q : HP → Prop} {C : Cx} (hC : xOk C cX1_moveFrom yX1_moveFrom.cls 4 rm_X1_moveFrom none) (hE : xEnd C gC SH (pV Q)) (hq0 : Ty gC q0 1 0)  (hp : P_X1_moveFrom_j62 q0 i1 h  Q) : SW C gC 62 [(0, .ref q0), (1, .int i1)] [] h := by
  unfold P_X1_moveFrom_j62 at hp
  refine x_aload_n hC dX1_moveFrom_62 (lm 0 rfl) ?_
  refine x_aload_n hC dX1_moveFrom_63 (lm 0 rfl) ?_
  refine s_getI hC dX1_moveFrom_64 fk_1_46 hq0 ?_
  refine x_iload_n hC dX1_moveFrom_67 (lm 1 rfl) ?_
  refine x_iadd hC dX1_moveFrom_68 ?_
  refine s_callNi (avs := [.int ((h.1 q0 6) + i1)]) (st := [.ref q0]) hC dX1_moveFrom_69 nl_1_111 ms_X8_round rfl (t_X8_round  hp) (Nat.le_of_ble_eq_true rfl) ⟨rfl, rfl⟩ ⟨Nat.le_of_ble_eq_true rfl, Nat.le_of_ble_eq_true rfl⟩ (fun v_69 h_69 hp => ?_)
  refine s_putI hC dX1_moveFrom_72 fk_1_46 rfl rfl hq0 ?_
  refine x_aload_n hC dX1_moveFrom_75 (lm 0 rfl) ?_
  refine x_iconst hC dX1_moveFrom_76 ic_0 ?_
  refine s_putI hC dX1_moveFrom_77 fk_1_55 rfl rfl hq0 ?_
  exact x_vret hC hE dX1_moveFrom_80 ⟨_, rfl, rfl, hp⟩
set_option maxHeartbeats 4000000 in
theorem t_X1_moveFrom {q0 : Nat} {i1 : Int32} {h : HP} {Q : HP → Prop} (hq0 : Ty gC q0 1 0) (hp : P_X1_moveFrom q0 i1 h Q) : MT yX1_moveFrom cX1_moveFrom 4 none rm_X1_moveFrom [.ref q0, .int i1] gC SH (emb h) (pV Q) := by
  refine MT.of (by decide +kernel) (Nat.le_of_ble_eq_true rfl) (fun C hC hE => ?_)
  show SW C gC 0 [(0, .ref q0), (1, .int i1)] [] h
  unfold P_X1_moveFrom at hp
  refine x_iload_n hC dX1_moveFrom_0 (lm 1 rfl) ?_
  refine x_if_gt (tgt := 5) hC dX1_moveFrom_1 (by decide) (fun hc => ?_) (fun hc => ?_)
  · have hp := hp.1 hc
    refine x_iconst hC dX1_moveFrom_5 ic_0 ?_
    refine x_istore_n (lv' := [(2, .int 0), (0, .ref q0), (1, .int i1)]) hC dX1_moveFrom_6 (by decide) rfl ?_
    refine x_subk (lv' := [(0, .ref q0), (1, .int i1), (2, .int 0)]) [1, 2, 0] rfl ?_
    refine hp (fun i2_7 h_7 => SW C gC 7 [(0, .ref q0), (1, .int i1), (2, .int i2_7)] [] h_7) (fun i2_7 h_7 hp => ?_)
    refine x_iload_n hC dX1_moveFrom_7 (lm 2 rfl) ?_
    refine x_iload_n hC dX1_moveFrom_8 (lm 1 rfl) ?_
    refine x_icmp_ge (tgt := 62) hC dX1_moveFrom_9 (by decide) (fun hc => ?_) (fun hc => ?_)
    · have hp := hp.1 hc
      exact x_subk [0, 1] rfl (l_X1_moveFrom_j62 hC hE hq0  hp)
    · have hp := hp.2 hc
      refine x_iload_n hC dX1_moveFrom_12 (lm 2 rfl) ?_
      refine x_aload_n hC dX1_moveFrom_13 (lm 0 rfl) ?_
      refine s_getI hC dX1_moveFrom_14 fk_1_40 hq0 ?_
      refine x_icmp_ge (tgt := 62) hC dX1_moveFrom_17 (by decide) (fun hc => ?_) (fun hc => ?_)
      · have hp := hp.1 hc
        exact x_subk [0, 1] rfl (l_X1_moveFrom_j62 hC hE hq0  hp)
      · have hp := hp.2 hc
        refine x_aload_n hC dX1_moveFrom_20 (lm 0 rfl) ?_
        refine s_getI hC dX1_moveFrom_21 fk_1_46 hq0 ?_
        refine x_iload_n hC dX1_moveFrom_24 (lm 2 rfl) ?_
        refine x_iadd hC dX1_moveFrom_25 ?_
        refine s_callNi (avs := [.int ((h_7.1 q0 6) + i2_7)]) (st := []) hC dX1_moveFrom_26 nl_1_69 ms_X8_slot rfl (t_X8_slot  hp) (Nat.le_of_ble_eq_true rfl) ⟨rfl, rfl⟩ ⟨Nat.le_of_ble_eq_true rfl, Nat.le_of_ble_eq_true rfl⟩ (fun v_26 h_26 hp => ?_)
        refine x_istore_n (lv' := [(3, .int v_26), (0, .ref q0), (1, .int i1), (2, .int i2_7)]) hC dX1_moveFrom_29 (by decide) rfl ?_
        refine x_aload_n hC dX1_moveFrom_30 (lm 1 rfl) ?_
        refine s_getR (r := q0 + 3) hC dX1_moveFrom_31 fk_1_18 hq0 (fr_1_11 hq0).1 ?_
        refine x_iload_n hC dX1_moveFrom_34 (lm 0 rfl) ?_
        obtain ⟨ho, hp⟩ := hp
        refine s_iald hC dX1_moveFrom_35 ((fr_1_11 hq0).2) ho ?_
        refine x_if_le (tgt := 49) hC dX1_moveFrom_36 (by decide) (fun hc => ?_) (fun hc => ?_)
        · have hp := hp.1 hc
          refine x_aload_n hC dX1_moveFrom_49 (lm 1 rfl) ?_
          refine s_getR (r := q0 + 3) hC dX1_moveFrom_50 fk_1_18 hq0 (fr_1_11 hq0).1 ?_
          refine x_iload_n hC dX1_moveFrom_53 (lm 0 rfl) ?_
          refine x_iconst hC dX1_moveFrom_54 ic_m1 ?_
          obtain ⟨ho, hp⟩ := hp
          refine s_iast hC dX1_moveFrom_55 ((fr_1_11 hq0).2) ho ?_
          refine x_iinc (u := i2_7 + 1) (lv' := [(2, .int (i2_7 + 1)), (3, .int v_26), (0, .ref q0), (1, .int i1)]) hC dX1_moveFrom_56 (lm 3 rfl) (congrArg _ ic_1) (by decide) rfl ?_
          refine x_goto (tgt := 7) hC dX1_moveFrom_59 (by decide) ?_
          exact x_subk [2, 3, 0] rfl hp
        · have hp := hp.2 hc
          refine x_aload_n hC dX1_moveFrom_39 (lm 1 rfl) ?_
          refine x_aload_n hC dX1_moveFrom_40 (lm 1 rfl) ?_
          refine s_getR (r := q0 + 3) hC dX1_moveFrom_41 fk_1_18 hq0 (fr_1_11 hq0).1 ?_
          refine x_iload_n hC dX1_moveFrom_44 (lm 0 rfl) ?_
          obtain ⟨ho, hp⟩ := hp
          refine s_iald hC dX1_moveFrom_45 ((fr_1_11 hq0).2) ho ?_
          refine s_callVv (avs := [.int (h_26.1 (q0 + 3) v_26.toNatClampNeg)]) (st := []) hC dX1_moveFrom_46 ml_1_98 mi_X1_release hq0 rfl (t_X1_release hq0 hp) (Nat.le_of_ble_eq_true rfl) ⟨rfl, rfl⟩ ⟨Nat.le_of_ble_eq_true rfl, Nat.le_of_ble_eq_true rfl⟩ (fun h_46 hp => ?_)
          refine x_aload_n hC dX1_moveFrom_49 (lm 1 rfl) ?_
          refine s_getR (r := q0 + 3) hC dX1_moveFrom_50 fk_1_18 hq0 (fr_1_11 hq0).1 ?_
          refine x_iload_n hC dX1_moveFrom_53 (lm 0 rfl) ?_
          refine x_iconst hC dX1_moveFrom_54 ic_m1 ?_
          obtain ⟨ho, hp⟩ := hp
          refine s_iast hC dX1_moveFrom_55 ((fr_1_11 hq0).2) ho ?_
          refine x_iinc (u := i2_7 + 1) (lv' := [(2, .int (i2_7 + 1)), (3, .int v_26), (0, .ref q0), (1, .int i1)]) hC dX1_moveFrom_56 (lm 3 rfl) (congrArg _ ic_1) (by decide) rfl ?_
          refine x_goto (tgt := 7) hC dX1_moveFrom_59 (by decide) ?_
          exact x_subk [2, 3, 0] rfl hp
  · have hp := hp.2 hc
    exact x_vret hC hE dX1_moveFrom_4 ⟨_, rfl, rfl, hp⟩
theorem dX1_end_0 : decode cX1_end 0 = .ok (.aload_n 0, 1) := by decide +kernel
theorem dX1_end_1 : decode cX1_end 1 = .ok (.getfield 26, 3) := by decide +kernel
theorem dX1_end_4 : decode cX1_end 4 = .ok (.ifCond .eq 16, 3) := by decide +kernel
theorem dX1_end_7 : decode cX1_end 7 = .ok (.aload_n 0, 1) := by decide +kernel
theorem dX1_end_8 : decode cX1_end 8 = .ok (.aload_n 0, 1) := by decide +kernel
theorem dX1_end_9 : decode cX1_end 9 = .ok (.getfield 40, 3) := by decide +kernel
theorem dX1_end_12 : decode cX1_end 12 = .ok (.invokevirtual 61, 3) := by decide +kernel
theorem dX1_end_15 : decode cX1_end 15 = .ok (.aload_n 0, 1) := by decide +kernel
theorem dX1_end_16 : decode cX1_end 16 = .ok (.iconst 0, 1) := by decide +kernel
theorem dX1_end_17 : decode cX1_end 17 = .ok (.putfield 26, 3) := by decide +kernel
theorem dX1_end_20 : decode cX1_end 20 = .ok (.return_, 1) := by decide +kernel
abbrev rm_X1_end : Room := { frames := 3, cells := 0, slots := 0, locals := 66 }
def P_X1_end (q0 : Nat) (h : HP) (Q : HP → Prop) : Prop := (((h.1 q0 2) = 0) → Q h) ∧ ((¬ (h.1 q0 2) = 0) → (P_X1_moveFrom q0 (h.1 q0 4) h (fun (h_12 : HP) => Q (si h_12 q0 2 0))))
set_option maxHeartbeats 4000000 in
theorem t_X1_end {q0 : Nat} {h : HP} {Q : HP → Prop} (hq0 : Ty gC q0 1 0) (hp : P_X1_end q0 h Q) : MT yX1_end cX1_end 1 none rm_X1_end [.ref q0] gC SH (emb h) (pV Q) := by
  refine MT.of (by decide +kernel) (Nat.le_of_ble_eq_true rfl) (fun C hC hE => ?_)
  show SW C gC 0 [(0, .ref q0)] [] h
  unfold P_X1_end at hp
  refine x_aload_n hC dX1_end_0 (lm 0 rfl) ?_
  refine s_getZ hC dX1_end_1 fk_1_26 hq0 ?_
  refine x_if_eq (tgt := 20) hC dX1_end_4 (by decide) (fun hc => ?_) (fun hc => ?_)
  · have hp := hp.1 hc
    exact x_vret hC hE dX1_end_20 ⟨_, rfl, rfl, hp⟩
  · have hp := hp.2 hc
    refine x_aload_n hC dX1_end_7 (lm 0 rfl) ?_
    refine x_aload_n hC dX1_end_8 (lm 0 rfl) ?_
    refine s_getI hC dX1_end_9 fk_1_40 hq0 ?_
    refine s_callVv (avs := [.int (h.1 q0 4)]) (st := []) hC dX1_end_12 ml_1_61 mi_X1_moveFrom hq0 rfl (t_X1_moveFrom hq0 hp) (Nat.le_of_ble_eq_true rfl) ⟨rfl, rfl⟩ ⟨Nat.le_of_ble_eq_true rfl, Nat.le_of_ble_eq_true rfl⟩ (fun h_12 hp => ?_)
    refine x_aload_n hC dX1_end_15 (lm 0 rfl) ?_
    refine x_iconst hC dX1_end_16 ic_0 ?_
    refine s_putZ hC dX1_end_17 fk_1_26 rfl rfl (Or.inl rfl) hq0 ?_
    exact x_vret hC hE dX1_end_20 ⟨_, rfl, rfl, hp⟩
theorem dX1_begin_0 : decode cX1_begin 0 = .ok (.aload_n 0, 1) := by decide +kernel
theorem dX1_begin_1 : decode cX1_begin 1 = .ok (.invokevirtual 33, 3) := by decide +kernel
theorem dX1_begin_4 : decode cX1_begin 4 = .ok (.aload_n 0, 1) := by decide +kernel
theorem dX1_begin_5 : decode cX1_begin 5 = .ok (.iconst 1, 1) := by decide +kernel
theorem dX1_begin_6 : decode cX1_begin 6 = .ok (.putfield 26, 3) := by decide +kernel
theorem dX1_begin_9 : decode cX1_begin 9 = .ok (.aload_n 0, 1) := by decide +kernel
theorem dX1_begin_10 : decode cX1_begin 10 = .ok (.iload_n 1, 1) := by decide +kernel
theorem dX1_begin_11 : decode cX1_begin 11 = .ok (.putfield 36, 3) := by decide +kernel
theorem dX1_begin_14 : decode cX1_begin 14 = .ok (.aload_n 0, 1) := by decide +kernel
theorem dX1_begin_15 : decode cX1_begin 15 = .ok (.iload_n 2, 1) := by decide +kernel
theorem dX1_begin_16 : decode cX1_begin 16 = .ok (.putfield 40, 3) := by decide +kernel
theorem dX1_begin_19 : decode cX1_begin 19 = .ok (.aload_n 0, 1) := by decide +kernel
theorem dX1_begin_20 : decode cX1_begin 20 = .ok (.iload_n 3, 1) := by decide +kernel
theorem dX1_begin_21 : decode cX1_begin 21 = .ok (.putfield 43, 3) := by decide +kernel
theorem dX1_begin_24 : decode cX1_begin 24 = .ok (.aload_n 0, 1) := by decide +kernel
theorem dX1_begin_25 : decode cX1_begin 25 = .ok (.iconst 0, 1) := by decide +kernel
theorem dX1_begin_26 : decode cX1_begin 26 = .ok (.putfield 46, 3) := by decide +kernel
theorem dX1_begin_29 : decode cX1_begin 29 = .ok (.aload_n 0, 1) := by decide +kernel
theorem dX1_begin_30 : decode cX1_begin 30 = .ok (.iconst 0, 1) := by decide +kernel
theorem dX1_begin_31 : decode cX1_begin 31 = .ok (.putfield 49, 3) := by decide +kernel
theorem dX1_begin_34 : decode cX1_begin 34 = .ok (.aload_n 0, 1) := by decide +kernel
theorem dX1_begin_35 : decode cX1_begin 35 = .ok (.iconst 0, 1) := by decide +kernel
theorem dX1_begin_36 : decode cX1_begin 36 = .ok (.putfield 52, 3) := by decide +kernel
theorem dX1_begin_39 : decode cX1_begin 39 = .ok (.aload_n 0, 1) := by decide +kernel
theorem dX1_begin_40 : decode cX1_begin 40 = .ok (.iconst 0, 1) := by decide +kernel
theorem dX1_begin_41 : decode cX1_begin 41 = .ok (.putfield 55, 3) := by decide +kernel
theorem dX1_begin_44 : decode cX1_begin 44 = .ok (.aload_n 0, 1) := by decide +kernel
theorem dX1_begin_45 : decode cX1_begin 45 = .ok (.iconst 0, 1) := by decide +kernel
theorem dX1_begin_46 : decode cX1_begin 46 = .ok (.putfield 58, 3) := by decide +kernel
theorem dX1_begin_49 : decode cX1_begin 49 = .ok (.iconst 0, 1) := by decide +kernel
theorem dX1_begin_50 : decode cX1_begin 50 = .ok (.istore 4, 2) := by decide +kernel
theorem dX1_begin_52 : decode cX1_begin 52 = .ok (.iload 4, 2) := by decide +kernel
theorem dX1_begin_54 : decode cX1_begin 54 = .ok (.bipush 16, 2) := by decide +kernel
theorem dX1_begin_56 : decode cX1_begin 56 = .ok (.if_icmp .ge 17, 3) := by decide +kernel
theorem dX1_begin_59 : decode cX1_begin 59 = .ok (.aload_n 0, 1) := by decide +kernel
theorem dX1_begin_60 : decode cX1_begin 60 = .ok (.getfield 18, 3) := by decide +kernel
theorem dX1_begin_63 : decode cX1_begin 63 = .ok (.iload 4, 2) := by decide +kernel
theorem dX1_begin_65 : decode cX1_begin 65 = .ok (.iconst (-1), 1) := by decide +kernel
theorem dX1_begin_66 : decode cX1_begin 66 = .ok (.iastore, 1) := by decide +kernel
theorem dX1_begin_67 : decode cX1_begin 67 = .ok (.iinc 4 1, 3) := by decide +kernel
theorem dX1_begin_70 : decode cX1_begin 70 = .ok (.goto (-18), 3) := by decide +kernel
theorem dX1_begin_73 : decode cX1_begin 73 = .ok (.return_, 1) := by decide +kernel
abbrev rm_X1_begin : Room := { frames := 4, cells := 0, slots := 0, locals := 86 }
def P_X1_begin (q0 : Nat) (i1 : Int32) (i2 : Int32) (i3 : Int32) (h : HP) (Q : HP → Prop) : Prop := P_X1_end q0 h (fun (h_1 : HP) => Lp2 (fun X_52 (i4_52 : Int32) (h_52 : HP) => ((16 ≤ i4_52) → Q h_52) ∧ ((¬ 16 ≤ i4_52) → ((vp_in i4_52 16) ∧ (X_52 (i4_52 + 1) (si h_52 (q0 + 3) i4_52.toNatClampNeg (-1)))))) 0 (si (si (si (si (si (si (si (si (si h_1 q0 2 1) q0 3 i1) q0 4 i2) q0 5 i3) q0 6 0) q0 7 0) q0 8 0) q0 9 0) q0 10 0))
set_option maxHeartbeats 4000000 in
theorem t_X1_begin {q0 : Nat} {i1 : Int32} {i2 : Int32} {i3 : Int32} {h : HP} {Q : HP → Prop} (hq0 : Ty gC q0 1 0) (hp : P_X1_begin q0 i1 i2 i3 h Q) : MT yX1_begin cX1_begin 5 none rm_X1_begin [.ref q0, .int i1, .int i2, .int i3] gC SH (emb h) (pV Q) := by
  refine MT.of (by decide +kernel) (Nat.le_of_ble_eq_true rfl) (fun C hC hE => ?_)
  show SW C gC 0 [(0, .ref q0), (1, .int i1), (2, .int i2), (3, .int i3)] [] h
  unfold P_X1_begin at hp
  refine x_aload_n hC dX1_begin_0 (lm 0 rfl) ?_
  refine s_callVv (avs := []) (st := []) hC dX1_begin_1 ml_1_33 mi_X1_end hq0 rfl (t_X1_end hq0 hp) (Nat.le_of_ble_eq_true rfl) ⟨rfl, rfl⟩ ⟨Nat.le_of_ble_eq_true rfl, Nat.le_of_ble_eq_true rfl⟩ (fun h_1 hp => ?_)
  refine x_aload_n hC dX1_begin_4 (lm 0 rfl) ?_
  refine x_iconst hC dX1_begin_5 ic_1 ?_
  refine s_putZ hC dX1_begin_6 fk_1_26 rfl rfl (Or.inr rfl) hq0 ?_
  refine x_aload_n hC dX1_begin_9 (lm 0 rfl) ?_
  refine x_iload_n hC dX1_begin_10 (lm 1 rfl) ?_
  refine s_putI hC dX1_begin_11 fk_1_36 rfl rfl hq0 ?_
  refine x_aload_n hC dX1_begin_14 (lm 0 rfl) ?_
  refine x_iload_n hC dX1_begin_15 (lm 2 rfl) ?_
  refine s_putI hC dX1_begin_16 fk_1_40 rfl rfl hq0 ?_
  refine x_aload_n hC dX1_begin_19 (lm 0 rfl) ?_
  refine x_iload_n hC dX1_begin_20 (lm 3 rfl) ?_
  refine s_putI hC dX1_begin_21 fk_1_43 rfl rfl hq0 ?_
  refine x_aload_n hC dX1_begin_24 (lm 0 rfl) ?_
  refine x_iconst hC dX1_begin_25 ic_0 ?_
  refine s_putI hC dX1_begin_26 fk_1_46 rfl rfl hq0 ?_
  refine x_aload_n hC dX1_begin_29 (lm 0 rfl) ?_
  refine x_iconst hC dX1_begin_30 ic_0 ?_
  refine s_putI hC dX1_begin_31 fk_1_49 rfl rfl hq0 ?_
  refine x_aload_n hC dX1_begin_34 (lm 0 rfl) ?_
  refine x_iconst hC dX1_begin_35 ic_0 ?_
  refine s_putI hC dX1_begin_36 fk_1_52 rfl rfl hq0 ?_
  refine x_aload_n hC dX1_begin_39 (lm 0 rfl) ?_
  refine x_iconst hC dX1_begin_40 ic_0 ?_
  refine s_putI hC dX1_begin_41 fk_1_55 rfl rfl hq0 ?_
  refine x_aload_n hC dX1_begin_44 (lm 0 rfl) ?_
  refine x_iconst hC dX1_begin_45 ic_0 ?_
  refine s_putI hC dX1_begin_46 fk_1_58 rfl rfl hq0 ?_
  refine x_iconst hC dX1_begin_49 ic_0 ?_
  refine x_istore (lv' := [(4, .int 0), (0, .ref q0), (1, .int i1), (2, .int i2), (3, .int i3)]) hC dX1_begin_50 (by decide) rfl ?_
  refine x_subk (lv' := [(0, .ref q0), (4, .int 0)]) [1, 0] rfl ?_
  refine hp (fun i4_52 h_52 => SW C gC 52 [(0, .ref q0), (4, .int i4_52)] [] h_52) (fun i4_52 h_52 hp => ?_)
  refine x_iload hC dX1_begin_52 (lm 1 rfl) ?_
  refine x_bipush hC dX1_begin_54 bp_16 ?_
  refine x_icmp_ge (tgt := 73) hC dX1_begin_56 (by decide) (fun hc => ?_) (fun hc => ?_)
  · have hp := hp.1 hc
    exact x_vret hC hE dX1_begin_73 ⟨_, rfl, rfl, hp⟩
  · have hp := hp.2 hc
    refine x_aload_n hC dX1_begin_59 (lm 0 rfl) ?_
    refine s_getR (r := q0 + 3) hC dX1_begin_60 fk_1_18 hq0 (fr_1_11 hq0).1 ?_
    refine x_iload hC dX1_begin_63 (lm 1 rfl) ?_
    refine x_iconst hC dX1_begin_65 ic_m1 ?_
    obtain ⟨ho, hp⟩ := hp
    refine s_iast hC dX1_begin_66 ((fr_1_11 hq0).2) ho ?_
    refine x_iinc (u := i4_52 + 1) (lv' := [(4, .int (i4_52 + 1)), (0, .ref q0)]) hC dX1_begin_67 (lm 1 rfl) (congrArg _ ic_1) (by decide) rfl ?_
    refine x_goto (tgt := 52) hC dX1_begin_70 (by decide) ?_
    exact x_subk [1, 0] rfl hp
theorem dX1_is_0 : decode cX1_is 0 = .ok (.aload_n 0, 1) := by decide +kernel
theorem dX1_is_1 : decode cX1_is 1 = .ok (.getfield 36, 3) := by decide +kernel
theorem dX1_is_4 : decode cX1_is 4 = .ok (.iload_n 1, 1) := by decide +kernel
theorem dX1_is_5 : decode cX1_is 5 = .ok (.if_icmp .eq 15, 3) := by decide +kernel
theorem dX1_is_8 : decode cX1_is 8 = .ok (.aload_n 0, 1) := by decide +kernel
theorem dX1_is_9 : decode cX1_is 9 = .ok (.getfield 36, 3) := by decide +kernel
theorem dX1_is_12 : decode cX1_is 12 = .ok (.iconst 1, 1) := by decide +kernel
theorem dX1_is_13 : decode cX1_is 13 = .ok (.if_icmp .ne 11, 3) := by decide +kernel
theorem dX1_is_16 : decode cX1_is 16 = .ok (.iload_n 1, 1) := by decide +kernel
theorem dX1_is_17 : decode cX1_is 17 = .ok (.ifCond .ne 7, 3) := by decide +kernel
theorem dX1_is_20 : decode cX1_is 20 = .ok (.iconst 1, 1) := by decide +kernel
theorem dX1_is_21 : decode cX1_is 21 = .ok (.goto 4, 3) := by decide +kernel
theorem dX1_is_24 : decode cX1_is 24 = .ok (.iconst 0, 1) := by decide +kernel
theorem dX1_is_25 : decode cX1_is 25 = .ok (.ireturn, 1) := by decide +kernel
abbrev rm_X1_is : Room := { frames := 0, cells := 0, slots := 0, locals := 0 }
def P_X1_is (q0 : Nat) (i1 : Int32) (h : HP) (Q : Int32 → HP → Prop) : Prop := (((h.1 q0 3) = i1) → Q 1 h) ∧ ((¬ (h.1 q0 3) = i1) → (((¬ (h.1 q0 3) = 1) → Q 0 h) ∧ (((h.1 q0 3) = 1) → (((¬ i1 = 0) → Q 0 h) ∧ ((i1 = 0) → Q 1 h)))))
set_option maxHeartbeats 4000000 in
theorem t_X1_is {q0 : Nat} {i1 : Int32} {h : HP} {Q : Int32 → HP → Prop} (hq0 : Ty gC q0 1 0) (hp : P_X1_is q0 i1 h Q) : MT yX1_is cX1_is 2 (some .boolean) rm_X1_is [.ref q0, .int i1] gC SH (emb h) (pI Q) := by
  refine MT.of (by decide +kernel) (Nat.le_of_ble_eq_true rfl) (fun C hC hE => ?_)
  show SW C gC 0 [(0, .ref q0), (1, .int i1)] [] h
  unfold P_X1_is at hp
  refine x_aload_n hC dX1_is_0 (lm 0 rfl) ?_
  refine s_getI hC dX1_is_1 fk_1_36 hq0 ?_
  refine x_iload_n hC dX1_is_4 (lm 1 rfl) ?_
  refine x_icmp_eq (tgt := 20) hC dX1_is_5 (by decide) (fun hc => ?_) (fun hc => ?_)
  · have hp := hp.1 hc
    refine x_iconst hC dX1_is_20 ic_1 ?_
    refine x_goto (tgt := 25) hC dX1_is_21 (by decide) ?_
    exact x_zret hC hE dX1_is_25 (Or.inr rfl) ⟨_, _, rfl, rfl, hp⟩
  · have hp := hp.2 hc
    refine x_aload_n hC dX1_is_8 (lm 0 rfl) ?_
    refine s_getI hC dX1_is_9 fk_1_36 hq0 ?_
    refine x_iconst hC dX1_is_12 ic_1 ?_
    refine x_icmp_ne (tgt := 24) hC dX1_is_13 (by decide) (fun hc => ?_) (fun hc => ?_)
    · have hp := hp.1 hc
      refine x_iconst hC dX1_is_24 ic_0 ?_
      exact x_zret hC hE dX1_is_25 (Or.inl rfl) ⟨_, _, rfl, rfl, hp⟩
    · have hp := hp.2 hc
      refine x_iload_n hC dX1_is_16 (lm 1 rfl) ?_
      refine x_if_ne (tgt := 24) hC dX1_is_17 (by decide) (fun hc => ?_) (fun hc => ?_)
      · have hp := hp.1 hc
        refine x_iconst hC dX1_is_24 ic_0 ?_
        exact x_zret hC hE dX1_is_25 (Or.inl rfl) ⟨_, _, rfl, rfl, hp⟩
      · have hp := hp.2 hc
        refine x_iconst hC dX1_is_20 ic_1 ?_
        refine x_goto (tgt := 25) hC dX1_is_21 (by decide) ?_
        exact x_zret hC hE dX1_is_25 (Or.inr rfl) ⟨_, _, rfl, rfl, hp⟩
theorem dX1_hasPlace_0 : decode cX1_hasPlace 0 = .ok (.aload_n 0, 1) := by decide +kernel
theorem dX1_hasPlace_1 : decode cX1_hasPlace 1 = .ok (.getfield 26, 3) := by decide +kernel
theorem dX1_hasPlace_4 : decode cX1_hasPlace 4 = .ok (.ifCond .eq 21, 3) := by decide +kernel
theorem dX1_hasPlace_7 : decode cX1_hasPlace 7 = .ok (.iload_n 1, 1) := by decide +kernel
theorem dX1_hasPlace_8 : decode cX1_hasPlace 8 = .ok (.iconst 0, 1) := by decide +kernel
theorem dX1_hasPlace_9 : decode cX1_hasPlace 9 = .ok (.aload_n 0, 1) := by decide +kernel
theorem dX1_hasPlace_10 : decode cX1_hasPlace 10 = .ok (.getfield 40, 3) := by decide +kernel
theorem dX1_hasPlace_13 : decode cX1_hasPlace 13 = .ok (.iconst 1, 1) := by decide +kernel
theorem dX1_hasPlace_14 : decode cX1_hasPlace 14 = .ok (.isub, 1) := by decide +kernel
theorem dX1_hasPlace_15 : decode cX1_hasPlace 15 = .ok (.invokestatic 65, 3) := by decide +kernel
theorem dX1_hasPlace_18 : decode cX1_hasPlace 18 = .ok (.ifCond .eq 7, 3) := by decide +kernel
theorem dX1_hasPlace_21 : decode cX1_hasPlace 21 = .ok (.iconst 1, 1) := by decide +kernel
theorem dX1_hasPlace_22 : decode cX1_hasPlace 22 = .ok (.goto 4, 3) := by decide +kernel
theorem dX1_hasPlace_25 : decode cX1_hasPlace 25 = .ok (.iconst 0, 1) := by decide +kernel
theorem dX1_hasPlace_26 : decode cX1_hasPlace 26 = .ok (.ireturn, 1) := by decide +kernel
abbrev rm_X1_hasPlace : Room := { frames := 1, cells := 0, slots := 0, locals := 22 }
def P_X1_hasPlace (q0 : Nat) (i1 : Int32) (h : HP) (Q : Int32 → HP → Prop) : Prop := (((h.1 q0 2) = 0) → Q 0 h) ∧ ((¬ (h.1 q0 2) = 0) → (P_X8_within i1 0 ((h.1 q0 4) - 1) h (fun (v_15 : Int32) (h_15 : HP) => ((v_15 = 0) → Q 0 h_15) ∧ ((¬ v_15 = 0) → Q 1 h_15))))
set_option maxHeartbeats 4000000 in
theorem t_X1_hasPlace {q0 : Nat} {i1 : Int32} {h : HP} {Q : Int32 → HP → Prop} (hq0 : Ty gC q0 1 0) (hp : P_X1_hasPlace q0 i1 h Q) : MT yX1_hasPlace cX1_hasPlace 2 (some .boolean) rm_X1_hasPlace [.ref q0, .int i1] gC SH (emb h) (pI Q) := by
  refine MT.of (by decide +kernel) (Nat.le_of_ble_eq_true rfl) (fun C hC hE => ?_)
  show SW C gC 0 [(0, .ref q0), (1, .int i1)] [] h
  unfold P_X1_hasPlace at hp
  refine x_aload_n hC dX1_hasPlace_0 (lm 0 rfl) ?_
  refine s_getZ hC dX1_hasPlace_1 fk_1_26 hq0 ?_
  refine x_if_eq (tgt := 25) hC dX1_hasPlace_4 (by decide) (fun hc => ?_) (fun hc => ?_)
  · have hp := hp.1 hc
    refine x_iconst hC dX1_hasPlace_25 ic_0 ?_
    exact x_zret hC hE dX1_hasPlace_26 (Or.inl rfl) ⟨_, _, rfl, rfl, hp⟩
  · have hp := hp.2 hc
    refine x_iload_n hC dX1_hasPlace_7 (lm 1 rfl) ?_
    refine x_iconst hC dX1_hasPlace_8 ic_0 ?_
    refine x_aload_n hC dX1_hasPlace_9 (lm 0 rfl) ?_
    refine s_getI hC dX1_hasPlace_10 fk_1_40 hq0 ?_
    refine x_iconst hC dX1_hasPlace_13 ic_1 ?_
    refine x_isub hC dX1_hasPlace_14 ?_
    refine s_callNi (avs := [.int i1, .int 0, .int ((h.1 q0 4) - 1)]) (st := []) hC dX1_hasPlace_15 nl_1_65 ms_X8_within rfl (t_X8_within  hp) (Nat.le_of_ble_eq_true rfl) ⟨rfl, rfl⟩ ⟨Nat.le_of_ble_eq_true rfl, Nat.le_of_ble_eq_true rfl⟩ (fun v_15 h_15 hp => ?_)
    refine x_if_eq (tgt := 25) hC dX1_hasPlace_18 (by decide) (fun hc => ?_) (fun hc => ?_)
    · have hp := hp.1 hc
      refine x_iconst hC dX1_hasPlace_25 ic_0 ?_
      exact x_zret hC hE dX1_hasPlace_26 (Or.inl rfl) ⟨_, _, rfl, rfl, hp⟩
    · have hp := hp.2 hc
      refine x_iconst hC dX1_hasPlace_21 ic_1 ?_
      refine x_goto (tgt := 26) hC dX1_hasPlace_22 (by decide) ?_
      exact x_zret hC hE dX1_hasPlace_26 (Or.inr rfl) ⟨_, _, rfl, rfl, hp⟩
theorem dX1_keptAt_0 : decode cX1_keptAt 0 = .ok (.aload_n 0, 1) := by decide +kernel
theorem dX1_keptAt_1 : decode cX1_keptAt 1 = .ok (.getfield 18, 3) := by decide +kernel
theorem dX1_keptAt_4 : decode cX1_keptAt 4 = .ok (.aload_n 0, 1) := by decide +kernel
theorem dX1_keptAt_5 : decode cX1_keptAt 5 = .ok (.getfield 46, 3) := by decide +kernel
theorem dX1_keptAt_8 : decode cX1_keptAt 8 = .ok (.iload_n 1, 1) := by decide +kernel
theorem dX1_keptAt_9 : decode cX1_keptAt 9 = .ok (.iadd, 1) := by decide +kernel
theorem dX1_keptAt_10 : decode cX1_keptAt 10 = .ok (.invokestatic 69, 3) := by decide +kernel
theorem dX1_keptAt_13 : decode cX1_keptAt 13 = .ok (.iaload, 1) := by decide +kernel
theorem dX1_keptAt_14 : decode cX1_keptAt 14 = .ok (.ireturn, 1) := by decide +kernel
abbrev rm_X1_keptAt : Room := { frames := 1, cells := 0, slots := 0, locals := 20 }
def P_X1_keptAt (q0 : Nat) (i1 : Int32) (h : HP) (Q : Int32 → HP → Prop) : Prop := P_X8_slot ((h.1 q0 6) + i1) h (fun (v_10 : Int32) (h_10 : HP) => (vp_in v_10 16) ∧ (Q (h_10.1 (q0 + 3) v_10.toNatClampNeg) h_10))
set_option maxHeartbeats 4000000 in
theorem t_X1_keptAt {q0 : Nat} {i1 : Int32} {h : HP} {Q : Int32 → HP → Prop} (hq0 : Ty gC q0 1 0) (hp : P_X1_keptAt q0 i1 h Q) : MT yX1_keptAt cX1_keptAt 2 (some .int) rm_X1_keptAt [.ref q0, .int i1] gC SH (emb h) (pI Q) := by
  refine MT.of (by decide +kernel) (Nat.le_of_ble_eq_true rfl) (fun C hC hE => ?_)
  show SW C gC 0 [(0, .ref q0), (1, .int i1)] [] h
  unfold P_X1_keptAt at hp
  refine x_aload_n hC dX1_keptAt_0 (lm 0 rfl) ?_
  refine s_getR (r := q0 + 3) hC dX1_keptAt_1 fk_1_18 hq0 (fr_1_11 hq0).1 ?_
  refine x_aload_n hC dX1_keptAt_4 (lm 0 rfl) ?_
  refine s_getI hC dX1_keptAt_5 fk_1_46 hq0 ?_
  refine x_iload_n hC dX1_keptAt_8 (lm 1 rfl) ?_
  refine x_iadd hC dX1_keptAt_9 ?_
  refine s_callNi (avs := [.int ((h.1 q0 6) + i1)]) (st := [.ref (q0 + 3)]) hC dX1_keptAt_10 nl_1_69 ms_X8_slot rfl (t_X8_slot  hp) (Nat.le_of_ble_eq_true rfl) ⟨rfl, rfl⟩ ⟨Nat.le_of_ble_eq_true rfl, Nat.le_of_ble_eq_true rfl⟩ (fun v_10 h_10 hp => ?_)
  obtain ⟨ho, hp⟩ := hp
  refine s_iald hC dX1_keptAt_13 ((fr_1_11 hq0).2) ho ?_
  exact x_iret hC hE dX1_keptAt_14 ⟨_, _, rfl, rfl, hp⟩
theorem dX1_holdsAt_0 : decode cX1_holdsAt 0 = .ok (.aload_n 0, 1) := by decide +kernel
theorem dX1_holdsAt_1 : decode cX1_holdsAt 1 = .ok (.iload_n 1, 1) := by decide +kernel
theorem dX1_holdsAt_2 : decode cX1_holdsAt 2 = .ok (.invokevirtual 73, 3) := by decide +kernel
theorem dX1_holdsAt_5 : decode cX1_holdsAt 5 = .ok (.ifCond .le 7, 3) := by decide +kernel
theorem dX1_holdsAt_8 : decode cX1_holdsAt 8 = .ok (.iconst 1, 1) := by decide +kernel
theorem dX1_holdsAt_9 : decode cX1_holdsAt 9 = .ok (.goto 4, 3) := by decide +kernel
theorem dX1_holdsAt_12 : decode cX1_holdsAt 12 = .ok (.iconst 0, 1) := by decide +kernel
theorem dX1_holdsAt_13 : decode cX1_holdsAt 13 = .ok (.ireturn, 1) := by decide +kernel
abbrev rm_X1_holdsAt : Room := { frames := 2, cells := 0, slots := 0, locals := 41 }
def P_X1_holdsAt (q0 : Nat) (i1 : Int32) (h : HP) (Q : Int32 → HP → Prop) : Prop := P_X1_keptAt q0 i1 h (fun (v_2 : Int32) (h_2 : HP) => ((v_2 ≤ 0) → Q 0 h_2) ∧ ((¬ v_2 ≤ 0) → Q 1 h_2))
set_option maxHeartbeats 4000000 in
theorem t_X1_holdsAt {q0 : Nat} {i1 : Int32} {h : HP} {Q : Int32 → HP → Prop} (hq0 : Ty gC q0 1 0) (hp : P_X1_holdsAt q0 i1 h Q) : MT yX1_holdsAt cX1_holdsAt 2 (some .boolean) rm_X1_holdsAt [.ref q0, .int i1] gC SH (emb h) (pI Q) := by
  refine MT.of (by decide +kernel) (Nat.le_of_ble_eq_true rfl) (fun C hC hE => ?_)
  show SW C gC 0 [(0, .ref q0), (1, .int i1)] [] h
  unfold P_X1_holdsAt at hp
  refine x_aload_n hC dX1_holdsAt_0 (lm 0 rfl) ?_
  refine x_iload_n hC dX1_holdsAt_1 (lm 1 rfl) ?_
  refine s_callVi (avs := [.int i1]) (st := []) hC dX1_holdsAt_2 ml_1_73 mi_X1_keptAt hq0 rfl (t_X1_keptAt hq0 hp) (Nat.le_of_ble_eq_true rfl) ⟨rfl, rfl⟩ ⟨Nat.le_of_ble_eq_true rfl, Nat.le_of_ble_eq_true rfl⟩ (fun v_2 h_2 hp => ?_)
  refine x_if_le (tgt := 12) hC dX1_holdsAt_5 (by decide) (fun hc => ?_) (fun hc => ?_)
  · have hp := hp.1 hc
    refine x_iconst hC dX1_holdsAt_12 ic_0 ?_
    exact x_zret hC hE dX1_holdsAt_13 (Or.inl rfl) ⟨_, _, rfl, rfl, hp⟩
  · have hp := hp.2 hc
    refine x_iconst hC dX1_holdsAt_8 ic_1 ?_
    refine x_goto (tgt := 13) hC dX1_holdsAt_9 (by decide) ?_
    exact x_zret hC hE dX1_holdsAt_13 (Or.inr rfl) ⟨_, _, rfl, rfl, hp⟩
theorem dX1_heldCount_0 : decode cX1_heldCount 0 = .ok (.iconst 0, 1) := by decide +kernel
theorem dX1_heldCount_1 : decode cX1_heldCount 1 = .ok (.istore_n 1, 1) := by decide +kernel
theorem dX1_heldCount_2 : decode cX1_heldCount 2 = .ok (.iconst 0, 1) := by decide +kernel
theorem dX1_heldCount_3 : decode cX1_heldCount 3 = .ok (.istore_n 2, 1) := by decide +kernel
theorem dX1_heldCount_4 : decode cX1_heldCount 4 = .ok (.iload_n 2, 1) := by decide +kernel
theorem dX1_heldCount_5 : decode cX1_heldCount 5 = .ok (.aload_n 0, 1) := by decide +kernel
theorem dX1_heldCount_6 : decode cX1_heldCount 6 = .ok (.getfield 40, 3) := by decide +kernel
theorem dX1_heldCount_9 : decode cX1_heldCount 9 = .ok (.if_icmp .ge 20, 3) := by decide +kernel
theorem dX1_heldCount_12 : decode cX1_heldCount 12 = .ok (.iload_n 1, 1) := by decide +kernel
theorem dX1_heldCount_13 : decode cX1_heldCount 13 = .ok (.aload_n 0, 1) := by decide +kernel
theorem dX1_heldCount_14 : decode cX1_heldCount 14 = .ok (.iload_n 2, 1) := by decide +kernel
theorem dX1_heldCount_15 : decode cX1_heldCount 15 = .ok (.invokevirtual 76, 3) := by decide +kernel
theorem dX1_heldCount_18 : decode cX1_heldCount 18 = .ok (.invokestatic 80, 3) := by decide +kernel
theorem dX1_heldCount_21 : decode cX1_heldCount 21 = .ok (.iadd, 1) := by decide +kernel
theorem dX1_heldCount_22 : decode cX1_heldCount 22 = .ok (.istore_n 1, 1) := by decide +kernel
theorem dX1_heldCount_23 : decode cX1_heldCount 23 = .ok (.iinc 2 1, 3) := by decide +kernel
theorem dX1_heldCount_26 : decode cX1_heldCount 26 = .ok (.goto (-22), 3) := by decide +kernel
theorem dX1_heldCount_29 : decode cX1_heldCount 29 = .ok (.iload_n 1, 1) := by decide +kernel
theorem dX1_heldCount_30 : decode cX1_heldCount 30 = .ok (.ireturn, 1) := by decide +kernel
abbrev rm_X1_heldCount : Room := { frames := 3, cells := 0, slots := 0, locals := 62 }
def P_X1_heldCount (q0 : Nat) (h : HP) (Q : Int32 → HP → Prop) : Prop := Lp3 (fun X_4 (i1_4 : Int32) (i2_4 : Int32) (h_4 : HP) => (((h_4.1 q0 4) ≤ i2_4) → Q i1_4 h_4) ∧ ((¬ (h_4.1 q0 4) ≤ i2_4) → (P_X1_holdsAt q0 i2_4 h_4 (fun (v_15 : Int32) (h_15 : HP) => P_X8_flag v_15 h_15 (fun (v_18 : Int32) (h_18 : HP) => X_4 (i1_4 + v_18) (i2_4 + 1) h_18))))) 0 0 h
set_option maxHeartbeats 4000000 in
theorem t_X1_heldCount {q0 : Nat} {h : HP} {Q : Int32 → HP → Prop} (hq0 : Ty gC q0 1 0) (hp : P_X1_heldCount q0 h Q) : MT yX1_heldCount cX1_heldCount 3 (some .int) rm_X1_heldCount [.ref q0] gC SH (emb h) (pI Q) := by
  refine MT.of (by decide +kernel) (Nat.le_of_ble_eq_true rfl) (fun C hC hE => ?_)
  show SW C gC 0 [(0, .ref q0)] [] h
  unfold P_X1_heldCount at hp
  refine x_iconst hC dX1_heldCount_0 ic_0 ?_
  refine x_istore_n (lv' := [(1, .int 0), (0, .ref q0)]) hC dX1_heldCount_1 (by decide) rfl ?_
  refine x_iconst hC dX1_heldCount_2 ic_0 ?_
  refine x_istore_n (lv' := [(2, .int 0), (1, .int 0), (0, .ref q0)]) hC dX1_heldCount_3 (by decide) rfl ?_
  refine x_subk (lv' := [(0, .ref q0), (1, .int 0), (2, .int 0)]) [2, 1, 0] rfl ?_
  refine hp (fun i1_4 i2_4 h_4 => SW C gC 4 [(0, .ref q0), (1, .int i1_4), (2, .int i2_4)] [] h_4) (fun i1_4 i2_4 h_4 hp => ?_)
  refine x_iload_n hC dX1_heldCount_4 (lm 2 rfl) ?_
  refine x_aload_n hC dX1_heldCount_5 (lm 0 rfl) ?_
  refine s_getI hC dX1_heldCount_6 fk_1_40 hq0 ?_
  refine x_icmp_ge (tgt := 29) hC dX1_heldCount_9 (by decide) (fun hc => ?_) (fun hc => ?_)
  · have hp := hp.1 hc
    refine x_iload_n hC dX1_heldCount_29 (lm 1 rfl) ?_
    exact x_iret hC hE dX1_heldCount_30 ⟨_, _, rfl, rfl, hp⟩
  · have hp := hp.2 hc
    refine x_iload_n hC dX1_heldCount_12 (lm 1 rfl) ?_
    refine x_aload_n hC dX1_heldCount_13 (lm 0 rfl) ?_
    refine x_iload_n hC dX1_heldCount_14 (lm 2 rfl) ?_
    refine s_callVi (avs := [.int i2_4]) (st := [.int i1_4]) hC dX1_heldCount_15 ml_1_76 mi_X1_holdsAt hq0 rfl (t_X1_holdsAt hq0 hp) (Nat.le_of_ble_eq_true rfl) ⟨rfl, rfl⟩ ⟨Nat.le_of_ble_eq_true rfl, Nat.le_of_ble_eq_true rfl⟩ (fun v_15 h_15 hp => ?_)
    refine s_callNi (avs := [.int v_15]) (st := [.int i1_4]) hC dX1_heldCount_18 nl_1_80 ms_X8_flag rfl (t_X8_flag  hp) (Nat.le_of_ble_eq_true rfl) ⟨rfl, rfl⟩ ⟨Nat.le_of_ble_eq_true rfl, Nat.le_of_ble_eq_true rfl⟩ (fun v_18 h_18 hp => ?_)
    refine x_iadd hC dX1_heldCount_21 ?_
    refine x_istore_n (lv' := [(1, .int (i1_4 + v_18)), (0, .ref q0), (2, .int i2_4)]) hC dX1_heldCount_22 (by decide) rfl ?_
    refine x_iinc (u := i2_4 + 1) (lv' := [(2, .int (i2_4 + 1)), (1, .int (i1_4 + v_18)), (0, .ref q0)]) hC dX1_heldCount_23 (lm 2 rfl) (congrArg _ ic_1) (by decide) rfl ?_
    refine x_goto (tgt := 4) hC dX1_heldCount_26 (by decide) ?_
    exact x_subk [2, 1, 0] rfl hp
theorem dX8_ahead_0 : decode cX8_ahead 0 = .ok (.iload_n 1, 1) := by decide +kernel
theorem dX8_ahead_1 : decode cX8_ahead 1 = .ok (.iload_n 0, 1) := by decide +kernel
theorem dX8_ahead_2 : decode cX8_ahead 2 = .ok (.isub, 1) := by decide +kernel
theorem dX8_ahead_3 : decode cX8_ahead 3 = .ok (.bipush 63, 2) := by decide +kernel
theorem dX8_ahead_5 : decode cX8_ahead 5 = .ok (.iand, 1) := by decide +kernel
theorem dX8_ahead_6 : decode cX8_ahead 6 = .ok (.ireturn, 1) := by decide +kernel
abbrev rm_X8_ahead : Room := { frames := 0, cells := 0, slots := 0, locals := 0 }
def P_X8_ahead (i0 : Int32) (i1 : Int32) (h : HP) (Q : Int32 → HP → Prop) : Prop := Q ((i1 - i0) &&& 63) h
set_option maxHeartbeats 4000000 in
theorem t_X8_ahead {i0 : Int32} {i1 : Int32} {h : HP} {Q : Int32 → HP → Prop}  (hp : P_X8_ahead i0 i1 h Q) : MT yX8_ahead cX8_ahead 2 (some .int) rm_X8_ahead [.int i0, .int i1] gC SH (emb h) (pI Q) := by
  refine MT.of (by decide +kernel) (Nat.le_of_ble_eq_true rfl) (fun C hC hE => ?_)
  show SW C gC 0 [(0, .int i0), (1, .int i1)] [] h
  unfold P_X8_ahead at hp
  refine x_iload_n hC dX8_ahead_0 (lm 1 rfl) ?_
  refine x_iload_n hC dX8_ahead_1 (lm 0 rfl) ?_
  refine x_isub hC dX8_ahead_2 ?_
  refine x_bipush hC dX8_ahead_3 bp_63 ?_
  refine x_iand hC dX8_ahead_5 ?_
  exact x_iret hC hE dX8_ahead_6 ⟨_, _, rfl, rfl, hp⟩
theorem dX8_isBehind_0 : decode cX8_isBehind 0 = .ok (.iload_n 1, 1) := by decide +kernel
theorem dX8_isBehind_1 : decode cX8_isBehind 1 = .ok (.iload_n 0, 1) := by decide +kernel
theorem dX8_isBehind_2 : decode cX8_isBehind 2 = .ok (.invokestatic 354, 3) := by decide +kernel
theorem dX8_isBehind_5 : decode cX8_isBehind 5 = .ok (.bipush 32, 2) := by decide +kernel
theorem dX8_isBehind_7 : decode cX8_isBehind 7 = .ok (.if_icmp .lt 7, 3) := by decide +kernel
theorem dX8_isBehind_10 : decode cX8_isBehind 10 = .ok (.iconst 1, 1) := by decide +kernel
theorem dX8_isBehind_11 : decode cX8_isBehind 11 = .ok (.goto 4, 3) := by decide +kernel
theorem dX8_isBehind_14 : decode cX8_isBehind 14 = .ok (.iconst 0, 1) := by decide +kernel
theorem dX8_isBehind_15 : decode cX8_isBehind 15 = .ok (.ireturn, 1) := by decide +kernel
abbrev rm_X8_isBehind : Room := { frames := 1, cells := 0, slots := 0, locals := 21 }
def P_X8_isBehind (i0 : Int32) (i1 : Int32) (h : HP) (Q : Int32 → HP → Prop) : Prop := P_X8_ahead i1 i0 h (fun (v_2 : Int32) (h_2 : HP) => ((v_2 < 32) → Q 0 h_2) ∧ ((¬ v_2 < 32) → Q 1 h_2))
set_option maxHeartbeats 4000000 in
theorem t_X8_isBehind {i0 : Int32} {i1 : Int32} {h : HP} {Q : Int32 → HP → Prop}  (hp : P_X8_isBehind i0 i1 h Q) : MT yX8_isBehind cX8_isBehind 2 (some .boolean) rm_X8_isBehind [.int i0, .int i1] gC SH (emb h) (pI Q) := by
  refine MT.of (by decide +kernel) (Nat.le_of_ble_eq_true rfl) (fun C hC hE => ?_)
  show SW C gC 0 [(0, .int i0), (1, .int i1)] [] h
  unfold P_X8_isBehind at hp
  refine x_iload_n hC dX8_isBehind_0 (lm 1 rfl) ?_
  refine x_iload_n hC dX8_isBehind_1 (lm 0 rfl) ?_
  refine s_callSi (avs := [.int i1, .int i0]) (st := []) hC dX8_isBehind_2 ml_8_354 ms_X8_ahead rfl (t_X8_ahead  hp) (Nat.le_of_ble_eq_true rfl) ⟨rfl, rfl⟩ ⟨Nat.le_of_ble_eq_true rfl, Nat.le_of_ble_eq_true rfl⟩ (fun v_2 h_2 hp => ?_)
  refine x_bipush hC dX8_isBehind_5 bp_32 ?_
  refine x_icmp_lt (tgt := 14) hC dX8_isBehind_7 (by decide) (fun hc => ?_) (fun hc => ?_)
  · have hp := hp.1 hc
    refine x_iconst hC dX8_isBehind_14 ic_0 ?_
    exact x_zret hC hE dX8_isBehind_15 (Or.inl rfl) ⟨_, _, rfl, rfl, hp⟩
  · have hp := hp.2 hc
    refine x_iconst hC dX8_isBehind_10 ic_1 ?_
    refine x_goto (tgt := 15) hC dX8_isBehind_11 (by decide) ?_
    exact x_zret hC hE dX8_isBehind_15 (Or.inr rfl) ⟨_, _, rfl, rfl, hp⟩
theorem dX1_moveMark_0 : decode cX1_moveMark 0 = .ok (.iload_n 1, 1) := by decide +kernel
theorem dX1_moveMark_1 : decode cX1_moveMark 1 = .ok (.ifCond .le 38, 3) := by decide +kernel
theorem dX1_moveMark_4 : decode cX1_moveMark 4 = .ok (.aload_n 0, 1) := by decide +kernel
theorem dX1_moveMark_5 : decode cX1_moveMark 5 = .ok (.aload_n 0, 1) := by decide +kernel
theorem dX1_moveMark_6 : decode cX1_moveMark 6 = .ok (.getfield 49, 3) := by decide +kernel
theorem dX1_moveMark_9 : decode cX1_moveMark 9 = .ok (.iload_n 1, 1) := by decide +kernel
theorem dX1_moveMark_10 : decode cX1_moveMark 10 = .ok (.iadd, 1) := by decide +kernel
theorem dX1_moveMark_11 : decode cX1_moveMark 11 = .ok (.invokestatic 111, 3) := by decide +kernel
theorem dX1_moveMark_14 : decode cX1_moveMark 14 = .ok (.putfield 49, 3) := by decide +kernel
theorem dX1_moveMark_17 : decode cX1_moveMark 17 = .ok (.aload_n 0, 1) := by decide +kernel
theorem dX1_moveMark_18 : decode cX1_moveMark 18 = .ok (.iload_n 1, 1) := by decide +kernel
theorem dX1_moveMark_19 : decode cX1_moveMark 19 = .ok (.aload_n 0, 1) := by decide +kernel
theorem dX1_moveMark_20 : decode cX1_moveMark 20 = .ok (.getfield 40, 3) := by decide +kernel
theorem dX1_moveMark_23 : decode cX1_moveMark 23 = .ok (.if_icmp .ge 12, 3) := by decide +kernel
theorem dX1_moveMark_26 : decode cX1_moveMark 26 = .ok (.aload_n 0, 1) := by decide +kernel
theorem dX1_moveMark_27 : decode cX1_moveMark 27 = .ok (.getfield 52, 3) := by decide +kernel
theorem dX1_moveMark_30 : decode cX1_moveMark 30 = .ok (.iload_n 1, 1) := by decide +kernel
theorem dX1_moveMark_31 : decode cX1_moveMark 31 = .ok (.ishr, 1) := by decide +kernel
theorem dX1_moveMark_32 : decode cX1_moveMark 32 = .ok (.goto 4, 3) := by decide +kernel
theorem dX1_moveMark_35 : decode cX1_moveMark 35 = .ok (.iconst 0, 1) := by decide +kernel
theorem dX1_moveMark_36 : decode cX1_moveMark 36 = .ok (.putfield 52, 3) := by decide +kernel
theorem dX1_moveMark_39 : decode cX1_moveMark 39 = .ok (.return_, 1) := by decide +kernel
abbrev rm_X1_moveMark : Room := { frames := 1, cells := 0, slots := 0, locals := 20 }
def P_X1_moveMark (q0 : Nat) (i1 : Int32) (h : HP) (Q : HP → Prop) : Prop := ((i1 ≤ 0) → Q h) ∧ ((¬ i1 ≤ 0) → (P_X8_round ((h.1 q0 7) + i1) h (fun (v_11 : Int32) (h_11 : HP) => ((((si h_11 q0 7 v_11).1 q0 4) ≤ i1) → (Q (si (si h_11 q0 7 v_11) q0 8 0))) ∧ ((¬ ((si h_11 q0 7 v_11).1 q0 4) ≤ i1) → (Q (si (si h_11 q0 7 v_11) q0 8 (((si h_11 q0 7 v_11).1 q0 8) >>> (i1 &&& 31))))))))
set_option maxHeartbeats 4000000 in
theorem t_X1_moveMark {q0 : Nat} {i1 : Int32} {h : HP} {Q : HP → Prop} (hq0 : Ty gC q0 1 0) (hp : P_X1_moveMark q0 i1 h Q) : MT yX1_moveMark cX1_moveMark 2 none rm_X1_moveMark [.ref q0, .int i1] gC SH (emb h) (pV Q) := by
  refine MT.of (by decide +kernel) (Nat.le_of_ble_eq_true rfl) (fun C hC hE => ?_)
  show SW C gC 0 [(0, .ref q0), (1, .int i1)] [] h
  unfold P_X1_moveMark at hp
  refine x_iload_n hC dX1_moveMark_0 (lm 1 rfl) ?_
  refine x_if_le (tgt := 39) hC dX1_moveMark_1 (by decide) (fun hc => ?_) (fun hc => ?_)
  · have hp := hp.1 hc
    exact x_vret hC hE dX1_moveMark_39 ⟨_, rfl, rfl, hp⟩
  · have hp := hp.2 hc
    refine x_aload_n hC dX1_moveMark_4 (lm 0 rfl) ?_
    refine x_aload_n hC dX1_moveMark_5 (lm 0 rfl) ?_
    refine s_getI hC dX1_moveMark_6 fk_1_49 hq0 ?_
    refine x_iload_n hC dX1_moveMark_9 (lm 1 rfl) ?_
    refine x_iadd hC dX1_moveMark_10 ?_
    refine s_callNi (avs := [.int ((h.1 q0 7) + i1)]) (st := [.ref q0]) hC dX1_moveMark_11 nl_1_111 ms_X8_round rfl (t_X8_round  hp) (Nat.le_of_ble_eq_true rfl) ⟨rfl, rfl⟩ ⟨Nat.le_of_ble_eq_true rfl, Nat.le_of_ble_eq_true rfl⟩ (fun v_11 h_11 hp => ?_)
    refine s_putI hC dX1_moveMark_14 fk_1_49 rfl rfl hq0 ?_
    refine x_aload_n hC dX1_moveMark_17 (lm 0 rfl) ?_
    refine x_iload_n hC dX1_moveMark_18 (lm 1 rfl) ?_
    refine x_aload_n hC dX1_moveMark_19 (lm 0 rfl) ?_
    refine s_getI hC dX1_moveMark_20 fk_1_40 hq0 ?_
    refine x_icmp_ge (tgt := 35) hC dX1_moveMark_23 (by decide) (fun hc => ?_) (fun hc => ?_)
    · have hp := hp.1 hc
      refine x_iconst hC dX1_moveMark_35 ic_0 ?_
      refine s_putI hC dX1_moveMark_36 fk_1_52 rfl rfl hq0 ?_
      exact x_vret hC hE dX1_moveMark_39 ⟨_, rfl, rfl, hp⟩
    · have hp := hp.2 hc
      refine x_aload_n hC dX1_moveMark_26 (lm 0 rfl) ?_
      refine s_getI hC dX1_moveMark_27 fk_1_52 hq0 ?_
      refine x_iload_n hC dX1_moveMark_30 (lm 1 rfl) ?_
      refine x_ishr hC dX1_moveMark_31 ?_
      refine x_goto (tgt := 36) hC dX1_moveMark_32 (by decide) ?_
      refine s_putI hC dX1_moveMark_36 fk_1_52 rfl rfl hq0 ?_
      exact x_vret hC hE dX1_moveMark_39 ⟨_, rfl, rfl, hp⟩
theorem dX1_isDoubled_0 : decode cX1_isDoubled 0 = .ok (.aload_n 0, 1) := by decide +kernel
theorem dX1_isDoubled_1 : decode cX1_isDoubled 1 = .ok (.dup, 1) := by decide +kernel
theorem dX1_isDoubled_2 : decode cX1_isDoubled 2 = .ok (.getfield 58, 3) := by decide +kernel
theorem dX1_isDoubled_5 : decode cX1_isDoubled 5 = .ok (.iconst 1, 1) := by decide +kernel
theorem dX1_isDoubled_6 : decode cX1_isDoubled 6 = .ok (.iadd, 1) := by decide +kernel
theorem dX1_isDoubled_7 : decode cX1_isDoubled 7 = .ok (.putfield 58, 3) := by decide +kernel
theorem dX1_isDoubled_10 : decode cX1_isDoubled 10 = .ok (.aload_n 0, 1) := by decide +kernel
theorem dX1_isDoubled_11 : decode cX1_isDoubled 11 = .ok (.getfield 22, 3) := by decide +kernel
theorem dX1_isDoubled_14 : decode cX1_isDoubled 14 = .ok (.dup, 1) := by decide +kernel
theorem dX1_isDoubled_15 : decode cX1_isDoubled 15 = .ok (.getfield 122, 3) := by decide +kernel
theorem dX1_isDoubled_18 : decode cX1_isDoubled 18 = .ok (.iconst 1, 1) := by decide +kernel
theorem dX1_isDoubled_19 : decode cX1_isDoubled 19 = .ok (.iadd, 1) := by decide +kernel
theorem dX1_isDoubled_20 : decode cX1_isDoubled 20 = .ok (.putfield 122, 3) := by decide +kernel
theorem dX1_isDoubled_23 : decode cX1_isDoubled 23 = .ok (.return_, 1) := by decide +kernel
abbrev rm_X1_isDoubled : Room := { frames := 0, cells := 0, slots := 0, locals := 0 }
def P_X1_isDoubled (q0 : Nat) (h : HP) (Q : HP → Prop) : Prop := Q (si (si h q0 10 ((h.1 q0 10) + 1)) 4 5 (((si h q0 10 ((h.1 q0 10) + 1)).1 4 5) + 1))
set_option maxHeartbeats 4000000 in
theorem t_X1_isDoubled {q0 : Nat} {h : HP} {Q : HP → Prop} (hq0 : Ty gC q0 1 0) (hp : P_X1_isDoubled q0 h Q) : MT yX1_isDoubled cX1_isDoubled 1 none rm_X1_isDoubled [.ref q0] gC SH (emb h) (pV Q) := by
  refine MT.of (by decide +kernel) (Nat.le_of_ble_eq_true rfl) (fun C hC hE => ?_)
  show SW C gC 0 [(0, .ref q0)] [] h
  unfold P_X1_isDoubled at hp
  refine x_aload_n hC dX1_isDoubled_0 (lm 0 rfl) ?_
  refine x_dup hC dX1_isDoubled_1 rfl ?_
  refine s_getI hC dX1_isDoubled_2 fk_1_58 hq0 ?_
  refine x_iconst hC dX1_isDoubled_5 ic_1 ?_
  refine x_iadd hC dX1_isDoubled_6 ?_
  refine s_putI hC dX1_isDoubled_7 fk_1_58 rfl rfl hq0 ?_
  refine x_aload_n hC dX1_isDoubled_10 (lm 0 rfl) ?_
  refine s_getR (r := 4) hC dX1_isDoubled_11 fk_1_22 hq0 (fr_1_0 hq0).1 ?_
  refine x_dup hC dX1_isDoubled_14 rfl ?_
  refine s_getI hC dX1_isDoubled_15 fk_1_122 ty_4 ?_
  refine x_iconst hC dX1_isDoubled_18 ic_1 ?_
  refine x_iadd hC dX1_isDoubled_19 ?_
  refine s_putI hC dX1_isDoubled_20 fk_1_122 rfl rfl ty_4 ?_
  exact x_vret hC hE dX1_isDoubled_23 ⟨_, rfl, rfl, hp⟩
theorem dX1_moveOn_0 : decode cX1_moveOn 0 = .ok (.iconst 0, 1) := by decide +kernel
theorem dX1_moveOn_1 : decode cX1_moveOn 1 = .ok (.istore_n 1, 1) := by decide +kernel
theorem dX1_moveOn_2 : decode cX1_moveOn 2 = .ok (.iload_n 1, 1) := by decide +kernel
theorem dX1_moveOn_3 : decode cX1_moveOn 3 = .ok (.bipush 12, 2) := by decide +kernel
theorem dX1_moveOn_5 : decode cX1_moveOn 5 = .ok (.if_icmp .ge 23, 3) := by decide +kernel
theorem dX1_moveOn_8 : decode cX1_moveOn 8 = .ok (.aload_n 0, 1) := by decide +kernel
theorem dX1_moveOn_9 : decode cX1_moveOn 9 = .ok (.iconst 0, 1) := by decide +kernel
theorem dX1_moveOn_10 : decode cX1_moveOn 10 = .ok (.invokevirtual 73, 3) := by decide +kernel
theorem dX1_moveOn_13 : decode cX1_moveOn 13 = .ok (.iconst (-1), 1) := by decide +kernel
theorem dX1_moveOn_14 : decode cX1_moveOn 14 = .ok (.if_icmp .eq 14, 3) := by decide +kernel
theorem dX1_moveOn_17 : decode cX1_moveOn 17 = .ok (.aload_n 0, 1) := by decide +kernel
theorem dX1_moveOn_18 : decode cX1_moveOn 18 = .ok (.iconst 1, 1) := by decide +kernel
theorem dX1_moveOn_19 : decode cX1_moveOn 19 = .ok (.invokevirtual 61, 3) := by decide +kernel
theorem dX1_moveOn_22 : decode cX1_moveOn 22 = .ok (.iinc 1 1, 3) := by decide +kernel
theorem dX1_moveOn_25 : decode cX1_moveOn 25 = .ok (.goto (-23), 3) := by decide +kernel
theorem dX1_moveOn_28 : decode cX1_moveOn 28 = .ok (.return_, 1) := by decide +kernel
abbrev rm_X1_moveOn : Room := { frames := 3, cells := 0, slots := 0, locals := 66 }
def P_X1_moveOn (q0 : Nat) (h : HP) (Q : HP → Prop) : Prop := Lp2 (fun X_2 (i1_2 : Int32) (h_2 : HP) => ((12 ≤ i1_2) → Q h_2) ∧ ((¬ 12 ≤ i1_2) → (P_X1_keptAt q0 0 h_2 (fun (v_10 : Int32) (h_10 : HP) => ((v_10 = (-1)) → Q h_10) ∧ ((¬ v_10 = (-1)) → (P_X1_moveFrom q0 1 h_10 (fun (h_19 : HP) => X_2 (i1_2 + 1) h_19))))))) 0 h
set_option maxHeartbeats 4000000 in
theorem t_X1_moveOn {q0 : Nat} {h : HP} {Q : HP → Prop} (hq0 : Ty gC q0 1 0) (hp : P_X1_moveOn q0 h Q) : MT yX1_moveOn cX1_moveOn 2 none rm_X1_moveOn [.ref q0] gC SH (emb h) (pV Q) := by
  refine MT.of (by decide +kernel) (Nat.le_of_ble_eq_true rfl) (fun C hC hE => ?_)
  show SW C gC 0 [(0, .ref q0)] [] h
  unfold P_X1_moveOn at hp
  refine x_iconst hC dX1_moveOn_0 ic_0 ?_
  refine x_istore_n (lv' := [(1, .int 0), (0, .ref q0)]) hC dX1_moveOn_1 (by decide) rfl ?_
  refine x_subk (lv' := [(0, .ref q0), (1, .int 0)]) [1, 0] rfl ?_
  refine hp (fun i1_2 h_2 => SW C gC 2 [(0, .ref q0), (1, .int i1_2)] [] h_2) (fun i1_2 h_2 hp => ?_)
  refine x_iload_n hC dX1_moveOn_2 (lm 1 rfl) ?_
  refine x_bipush hC dX1_moveOn_3 bp_12 ?_
  refine x_icmp_ge (tgt := 28) hC dX1_moveOn_5 (by decide) (fun hc => ?_) (fun hc => ?_)
  · have hp := hp.1 hc
    exact x_vret hC hE dX1_moveOn_28 ⟨_, rfl, rfl, hp⟩
  · have hp := hp.2 hc
    refine x_aload_n hC dX1_moveOn_8 (lm 0 rfl) ?_
    refine x_iconst hC dX1_moveOn_9 ic_0 ?_
    refine s_callVi (avs := [.int 0]) (st := []) hC dX1_moveOn_10 ml_1_73 mi_X1_keptAt hq0 rfl (t_X1_keptAt hq0 hp) (Nat.le_of_ble_eq_true rfl) ⟨rfl, rfl⟩ ⟨Nat.le_of_ble_eq_true rfl, Nat.le_of_ble_eq_true rfl⟩ (fun v_10 h_10 hp => ?_)
    refine x_iconst hC dX1_moveOn_13 ic_m1 ?_
    refine x_icmp_eq (tgt := 28) hC dX1_moveOn_14 (by decide) (fun hc => ?_) (fun hc => ?_)
    · have hp := hp.1 hc
      exact x_vret hC hE dX1_moveOn_28 ⟨_, rfl, rfl, hp⟩
    · have hp := hp.2 hc
      refine x_aload_n hC dX1_moveOn_17 (lm 0 rfl) ?_
      refine x_iconst hC dX1_moveOn_18 ic_1 ?_
      refine s_callVv (avs := [.int 1]) (st := []) hC dX1_moveOn_19 ml_1_61 mi_X1_moveFrom hq0 rfl (t_X1_moveFrom hq0 hp) (Nat.le_of_ble_eq_true rfl) ⟨rfl, rfl⟩ ⟨Nat.le_of_ble_eq_true rfl, Nat.le_of_ble_eq_true rfl⟩ (fun h_19 hp => ?_)
      refine x_iinc (u := i1_2 + 1) (lv' := [(1, .int (i1_2 + 1)), (0, .ref q0)]) hC dX1_moveOn_22 (lm 1 rfl) (congrArg _ ic_1) (by decide) rfl ?_
      refine x_goto (tgt := 2) hC dX1_moveOn_25 (by decide) ?_
      exact x_subk [1, 0] rfl hp
theorem dX1_comes_0 : decode cX1_comes 0 = .ok (.aload_n 0, 1) := by decide +kernel
theorem dX1_comes_1 : decode cX1_comes 1 = .ok (.getfield 26, 3) := by decide +kernel
theorem dX1_comes_4 : decode cX1_comes 4 = .ok (.ifCond .ne 4, 3) := by decide +kernel
theorem dX1_comes_7 : decode cX1_comes 7 = .ok (.return_, 1) := by decide +kernel
theorem dX1_comes_8 : decode cX1_comes 8 = .ok (.iload_n 1, 1) := by decide +kernel
theorem dX1_comes_9 : decode cX1_comes 9 = .ok (.aload_n 0, 1) := by decide +kernel
theorem dX1_comes_10 : decode cX1_comes 10 = .ok (.getfield 49, 3) := by decide +kernel
theorem dX1_comes_13 : decode cX1_comes 13 = .ok (.invokestatic 84, 3) := by decide +kernel
theorem dX1_comes_16 : decode cX1_comes 16 = .ok (.ifCond .ne 41, 3) := by decide +kernel
theorem dX1_comes_19 : decode cX1_comes 19 = .ok (.aload_n 0, 1) := by decide +kernel
theorem dX1_comes_20 : decode cX1_comes 20 = .ok (.aload_n 0, 1) := by decide +kernel
theorem dX1_comes_21 : decode cX1_comes 21 = .ok (.getfield 49, 3) := by decide +kernel
theorem dX1_comes_24 : decode cX1_comes 24 = .ok (.iload_n 1, 1) := by decide +kernel
theorem dX1_comes_25 : decode cX1_comes 25 = .ok (.invokestatic 88, 3) := by decide +kernel
theorem dX1_comes_28 : decode cX1_comes 28 = .ok (.aload_n 0, 1) := by decide +kernel
theorem dX1_comes_29 : decode cX1_comes 29 = .ok (.getfield 40, 3) := by decide +kernel
theorem dX1_comes_32 : decode cX1_comes 32 = .ok (.iconst 1, 1) := by decide +kernel
theorem dX1_comes_33 : decode cX1_comes 33 = .ok (.isub, 1) := by decide +kernel
theorem dX1_comes_34 : decode cX1_comes 34 = .ok (.isub, 1) := by decide +kernel
theorem dX1_comes_35 : decode cX1_comes 35 = .ok (.invokevirtual 92, 3) := by decide +kernel
theorem dX1_comes_38 : decode cX1_comes 38 = .ok (.aload_n 0, 1) := by decide +kernel
theorem dX1_comes_39 : decode cX1_comes 39 = .ok (.dup, 1) := by decide +kernel
theorem dX1_comes_40 : decode cX1_comes 40 = .ok (.getfield 52, 3) := by decide +kernel
theorem dX1_comes_43 : decode cX1_comes 43 = .ok (.iconst 1, 1) := by decide +kernel
theorem dX1_comes_44 : decode cX1_comes 44 = .ok (.aload_n 0, 1) := by decide +kernel
theorem dX1_comes_45 : decode cX1_comes 45 = .ok (.getfield 49, 3) := by decide +kernel
theorem dX1_comes_48 : decode cX1_comes 48 = .ok (.iload_n 1, 1) := by decide +kernel
theorem dX1_comes_49 : decode cX1_comes 49 = .ok (.invokestatic 88, 3) := by decide +kernel
theorem dX1_comes_52 : decode cX1_comes 52 = .ok (.ishl, 1) := by decide +kernel
theorem dX1_comes_53 : decode cX1_comes 53 = .ok (.ior, 1) := by decide +kernel
theorem dX1_comes_54 : decode cX1_comes 54 = .ok (.putfield 52, 3) := by decide +kernel
theorem dX1_comes_57 : decode cX1_comes 57 = .ok (.iload_n 1, 1) := by decide +kernel
theorem dX1_comes_58 : decode cX1_comes 58 = .ok (.aload_n 0, 1) := by decide +kernel
theorem dX1_comes_59 : decode cX1_comes 59 = .ok (.getfield 46, 3) := by decide +kernel
theorem dX1_comes_62 : decode cX1_comes 62 = .ok (.invokestatic 84, 3) := by decide +kernel
theorem dX1_comes_65 : decode cX1_comes 65 = .ok (.ifCond .eq 8, 3) := by decide +kernel
theorem dX1_comes_68 : decode cX1_comes 68 = .ok (.aload_n 0, 1) := by decide +kernel
theorem dX1_comes_69 : decode cX1_comes 69 = .ok (.invokevirtual 95, 3) := by decide +kernel
theorem dX1_comes_72 : decode cX1_comes 72 = .ok (.return_, 1) := by decide +kernel
theorem dX1_comes_73 : decode cX1_comes 73 = .ok (.aload_n 0, 1) := by decide +kernel
theorem dX1_comes_74 : decode cX1_comes 74 = .ok (.aload_n 0, 1) := by decide +kernel
theorem dX1_comes_75 : decode cX1_comes 75 = .ok (.getfield 46, 3) := by decide +kernel
theorem dX1_comes_78 : decode cX1_comes 78 = .ok (.iload_n 1, 1) := by decide +kernel
theorem dX1_comes_79 : decode cX1_comes 79 = .ok (.invokestatic 88, 3) := by decide +kernel
theorem dX1_comes_82 : decode cX1_comes 82 = .ok (.aload_n 0, 1) := by decide +kernel
theorem dX1_comes_83 : decode cX1_comes 83 = .ok (.getfield 40, 3) := by decide +kernel
theorem dX1_comes_86 : decode cX1_comes 86 = .ok (.iconst 1, 1) := by decide +kernel
theorem dX1_comes_87 : decode cX1_comes 87 = .ok (.isub, 1) := by decide +kernel
theorem dX1_comes_88 : decode cX1_comes 88 = .ok (.isub, 1) := by decide +kernel
theorem dX1_comes_89 : decode cX1_comes 89 = .ok (.invokevirtual 61, 3) := by decide +kernel
theorem dX1_comes_92 : decode cX1_comes 92 = .ok (.aload_n 0, 1) := by decide +kernel
theorem dX1_comes_93 : decode cX1_comes 93 = .ok (.getfield 18, 3) := by decide +kernel
theorem dX1_comes_96 : decode cX1_comes 96 = .ok (.iload_n 1, 1) := by decide +kernel
theorem dX1_comes_97 : decode cX1_comes 97 = .ok (.invokestatic 69, 3) := by decide +kernel
theorem dX1_comes_100 : decode cX1_comes 100 = .ok (.iaload, 1) := by decide +kernel
theorem dX1_comes_101 : decode cX1_comes 101 = .ok (.iconst (-1), 1) := by decide +kernel
theorem dX1_comes_102 : decode cX1_comes 102 = .ok (.if_icmp .eq 10, 3) := by decide +kernel
theorem dX1_comes_105 : decode cX1_comes 105 = .ok (.aload_n 0, 1) := by decide +kernel
theorem dX1_comes_106 : decode cX1_comes 106 = .ok (.invokevirtual 95, 3) := by decide +kernel
theorem dX1_comes_109 : decode cX1_comes 109 = .ok (.goto 39, 3) := by decide +kernel
theorem dX1_comes_112 : decode cX1_comes 112 = .ok (.aload_n 0, 1) := by decide +kernel
theorem dX1_comes_113 : decode cX1_comes 113 = .ok (.getfield 36, 3) := by decide +kernel
theorem dX1_comes_116 : decode cX1_comes 116 = .ok (.iconst 2, 1) := by decide +kernel
theorem dX1_comes_117 : decode cX1_comes 117 = .ok (.if_icmp .ne 21, 3) := by decide +kernel
theorem dX1_comes_120 : decode cX1_comes 120 = .ok (.aload_n 0, 1) := by decide +kernel
theorem dX1_comes_121 : decode cX1_comes 121 = .ok (.iload_n 2, 1) := by decide +kernel
theorem dX1_comes_122 : decode cX1_comes 122 = .ok (.invokevirtual 98, 3) := by decide +kernel
theorem dX1_comes_125 : decode cX1_comes 125 = .ok (.aload_n 0, 1) := by decide +kernel
theorem dX1_comes_126 : decode cX1_comes 126 = .ok (.getfield 18, 3) := by decide +kernel
theorem dX1_comes_129 : decode cX1_comes 129 = .ok (.iload_n 1, 1) := by decide +kernel
theorem dX1_comes_130 : decode cX1_comes 130 = .ok (.invokestatic 69, 3) := by decide +kernel
theorem dX1_comes_133 : decode cX1_comes 133 = .ok (.iconst 0, 1) := by decide +kernel
theorem dX1_comes_134 : decode cX1_comes 134 = .ok (.iastore, 1) := by decide +kernel
theorem dX1_comes_135 : decode cX1_comes 135 = .ok (.goto 13, 3) := by decide +kernel
theorem dX1_comes_138 : decode cX1_comes 138 = .ok (.aload_n 0, 1) := by decide +kernel
theorem dX1_comes_139 : decode cX1_comes 139 = .ok (.getfield 18, 3) := by decide +kernel
theorem dX1_comes_142 : decode cX1_comes 142 = .ok (.iload_n 1, 1) := by decide +kernel
theorem dX1_comes_143 : decode cX1_comes 143 = .ok (.invokestatic 69, 3) := by decide +kernel
theorem dX1_comes_146 : decode cX1_comes 146 = .ok (.iload_n 2, 1) := by decide +kernel
theorem dX1_comes_147 : decode cX1_comes 147 = .ok (.iastore, 1) := by decide +kernel
theorem dX1_comes_148 : decode cX1_comes 148 = .ok (.aload_n 0, 1) := by decide +kernel
theorem dX1_comes_149 : decode cX1_comes 149 = .ok (.invokevirtual 101, 3) := by decide +kernel
theorem dX1_comes_152 : decode cX1_comes 152 = .ok (.return_, 1) := by decide +kernel
abbrev rm_X1_comes : Room := { frames := 4, cells := 0, slots := 0, locals := 87 }
def P_X1_comes_j57 (q0 : Nat) (i1 : Int32) (i2 : Int32) (h : HP)  (Q : HP → Prop) : Prop := P_X8_isBehind i1 (h.1 q0 6) h (fun (v_62 : Int32) (h_62 : HP) => ((v_62 = 0) → (P_X8_ahead (h_62.1 q0 6) i1 h_62 (fun (v_79 : Int32) (h_79 : HP) => P_X1_moveFrom q0 (v_79 - ((h_79.1 q0 4) - 1)) h_79 (fun (h_89 : HP) => P_X8_slot i1 h_89 (fun (v_97 : Int32) (h_97 : HP) => (vp_in v_97 16) ∧ ((((h_97.1 (q0 + 3) v_97.toNatClampNeg) = (-1)) → (((¬ (h_97.1 q0 3) = 2) → (P_X8_slot i1 h_97 (fun (v_143 : Int32) (h_143 : HP) => (vp_in v_143 16) ∧ (P_X1_moveOn q0 (si h_143 (q0 + 3) v_143.toNatClampNeg i2) (fun (h_149 : HP) => Q h_149))))) ∧ (((h_97.1 q0 3) = 2) → (P_X1_release q0 i2 h_97 (fun (h_122 : HP) => P_X8_slot i1 h_122 (fun (v_130 : Int32) (h_130 : HP) => (vp_in v_130 16) ∧ (P_X1_moveOn q0 (si h_130 (q0 + 3) v_130.toNatClampNeg 0) (fun (h_149 : HP) => Q h_149)))))))) ∧ ((¬ (h_97.1 (q0 + 3) v_97.toNatClampNeg) = (-1)) → (P_X1_isDoubled q0 h_97 (fun (h_106 : HP) => P_X1_moveOn q0 h_106 (fun (h_149 : HP) => Q h_149)))))))))) ∧ ((¬ v_62 = 0) → (P_X1_isDoubled q0 h_62 (fun (h_69 : HP) => Q h_69))))
def P_X1_comes (q0 : Nat) (i1 : Int32) (i2 : Int32) (h : HP) (Q : HP → Prop) : Prop := ((¬ (h.1 q0 2) = 0) → (P_X8_isBehind i1 (h.1 q0 7) h (fun (v_13 : Int32) (h_13 : HP) => ((¬ v_13 = 0) → P_X1_comes_j57 q0 i1 i2 h_13 Q) ∧ ((v_13 = 0) → (P_X8_ahead (h_13.1 q0 7) i1 h_13 (fun (v_25 : Int32) (h_25 : HP) => P_X1_moveMark q0 (v_25 - ((h_25.1 q0 4) - 1)) h_25 (fun (h_35 : HP) => P_X8_ahead (h_35.1 q0 7) i1 h_35 (fun (v_49 : Int32) (h_49 : HP) => P_X1_comes_j57 q0 i1 i2 (si h_49 q0 8 ((h_35.1 q0 8) ||| (1 <<< (v_49 &&& 31)))) Q)))))))) ∧ (((h.1 q0 2) = 0) → Q h)
set_option maxHeartbeats 4000000 in
theorem l_X1_comes_j57 {q0 : Nat} {i1 : Int32} {i2 : Int32} {h : HP}  {Q : HP → Prop} {C : Cx} (hC : xOk C cX1_comes yX1_comes.cls 3 rm_X1_comes none) (hE : xEnd C gC SH (pV Q)) (hq0 : Ty gC q0 1 0)  (hp : P_X1_comes_j57 q0 i1 i2 h  Q) : SW C gC 57 [(0, .ref q0), (1, .int i1), (2, .int i2)] [] h := by
  unfold P_X1_comes_j57 at hp
  refine x_iload_n hC dX1_comes_57 (lm 1 rfl) ?_
  refine x_aload_n hC dX1_comes_58 (lm 0 rfl) ?_
  refine s_getI hC dX1_comes_59 fk_1_46 hq0 ?_
  refine s_callNi (avs := [.int i1, .int (h.1 q0 6)]) (st := []) hC dX1_comes_62 nl_1_84 ms_X8_isBehind rfl (t_X8_isBehind  hp) (Nat.le_of_ble_eq_true rfl) ⟨rfl, rfl⟩ ⟨Nat.le_of_ble_eq_true rfl, Nat.le_of_ble_eq_true rfl⟩ (fun v_62 h_62 hp => ?_)
  refine x_if_eq (tgt := 73) hC dX1_comes_65 (by decide) (fun hc => ?_) (fun hc => ?_)
  · have hp := hp.1 hc
    refine x_aload_n hC dX1_comes_73 (lm 0 rfl) ?_
    refine x_aload_n hC dX1_comes_74 (lm 0 rfl) ?_
    refine s_getI hC dX1_comes_75 fk_1_46 hq0 ?_
    refine x_iload_n hC dX1_comes_78 (lm 1 rfl) ?_
    refine s_callNi (avs := [.int (h_62.1 q0 6), .int i1]) (st := [.ref q0]) hC dX1_comes_79 nl_1_88 ms_X8_ahead rfl (t_X8_ahead  hp) (Nat.le_of_ble_eq_true rfl) ⟨rfl, rfl⟩ ⟨Nat.le_of_ble_eq_true rfl, Nat.le_of_ble_eq_true rfl⟩ (fun v_79 h_79 hp => ?_)
    refine x_aload_n hC dX1_comes_82 (lm 0 rfl) ?_
    refine s_getI hC dX1_comes_83 fk_1_40 hq0 ?_
    refine x_iconst hC dX1_comes_86 ic_1 ?_
    refine x_isub hC dX1_comes_87 ?_
    refine x_isub hC dX1_comes_88 ?_
    refine s_callVv (avs := [.int (v_79 - ((h_79.1 q0 4) - 1))]) (st := []) hC dX1_comes_89 ml_1_61 mi_X1_moveFrom hq0 rfl (t_X1_moveFrom hq0 hp) (Nat.le_of_ble_eq_true rfl) ⟨rfl, rfl⟩ ⟨Nat.le_of_ble_eq_true rfl, Nat.le_of_ble_eq_true rfl⟩ (fun h_89 hp => ?_)
    refine x_aload_n hC dX1_comes_92 (lm 0 rfl) ?_
    refine s_getR (r := q0 + 3) hC dX1_comes_93 fk_1_18 hq0 (fr_1_11 hq0).1 ?_
    refine x_iload_n hC dX1_comes_96 (lm 1 rfl) ?_
    refine s_callNi (avs := [.int i1]) (st := [.ref (q0 + 3)]) hC dX1_comes_97 nl_1_69 ms_X8_slot rfl (t_X8_slot  hp) (Nat.le_of_ble_eq_true rfl) ⟨rfl, rfl⟩ ⟨Nat.le_of_ble_eq_true rfl, Nat.le_of_ble_eq_true rfl⟩ (fun v_97 h_97 hp => ?_)
    obtain ⟨ho, hp⟩ := hp
    refine s_iald hC dX1_comes_100 ((fr_1_11 hq0).2) ho ?_
    refine x_iconst hC dX1_comes_101 ic_m1 ?_
    refine x_icmp_eq (tgt := 112) hC dX1_comes_102 (by decide) (fun hc => ?_) (fun hc => ?_)
    · have hp := hp.1 hc
      refine x_aload_n hC dX1_comes_112 (lm 0 rfl) ?_
      refine s_getI hC dX1_comes_113 fk_1_36 hq0 ?_
      refine x_iconst hC dX1_comes_116 ic_2 ?_
      refine x_icmp_ne (tgt := 138) hC dX1_comes_117 (by decide) (fun hc => ?_) (fun hc => ?_)
      · have hp := hp.1 hc
        refine x_aload_n hC dX1_comes_138 (lm 0 rfl) ?_
        refine s_getR (r := q0 + 3) hC dX1_comes_139 fk_1_18 hq0 (fr_1_11 hq0).1 ?_
        refine x_iload_n hC dX1_comes_142 (lm 1 rfl) ?_
        refine s_callNi (avs := [.int i1]) (st := [.ref (q0 + 3)]) hC dX1_comes_143 nl_1_69 ms_X8_slot rfl (t_X8_slot  hp) (Nat.le_of_ble_eq_true rfl) ⟨rfl, rfl⟩ ⟨Nat.le_of_ble_eq_true rfl, Nat.le_of_ble_eq_true rfl⟩ (fun v_143 h_143 hp => ?_)
        refine x_iload_n hC dX1_comes_146 (lm 2 rfl) ?_
        obtain ⟨ho, hp⟩ := hp
        refine s_iast hC dX1_comes_147 ((fr_1_11 hq0).2) ho ?_
        refine x_aload_n hC dX1_comes_148 (lm 0 rfl) ?_
        refine s_callVv (avs := []) (st := []) hC dX1_comes_149 ml_1_101 mi_X1_moveOn hq0 rfl (t_X1_moveOn hq0 hp) (Nat.le_of_ble_eq_true rfl) ⟨rfl, rfl⟩ ⟨Nat.le_of_ble_eq_true rfl, Nat.le_of_ble_eq_true rfl⟩ (fun h_149 hp => ?_)
        exact x_vret hC hE dX1_comes_152 ⟨_, rfl, rfl, hp⟩
      · have hp := hp.2 hc
        refine x_aload_n hC dX1_comes_120 (lm 0 rfl) ?_
        refine x_iload_n hC dX1_comes_121 (lm 2 rfl) ?_
        refine s_callVv (avs := [.int i2]) (st := []) hC dX1_comes_122 ml_1_98 mi_X1_release hq0 rfl (t_X1_release hq0 hp) (Nat.le_of_ble_eq_true rfl) ⟨rfl, rfl⟩ ⟨Nat.le_of_ble_eq_true rfl, Nat.le_of_ble_eq_true rfl⟩ (fun h_122 hp => ?_)
        refine x_aload_n hC dX1_comes_125 (lm 0 rfl) ?_
        refine s_getR (r := q0 + 3) hC dX1_comes_126 fk_1_18 hq0 (fr_1_11 hq0).1 ?_
        refine x_iload_n hC dX1_comes_129 (lm 1 rfl) ?_
        refine s_callNi (avs := [.int i1]) (st := [.ref (q0 + 3)]) hC dX1_comes_130 nl_1_69 ms_X8_slot rfl (t_X8_slot  hp) (Nat.le_of_ble_eq_true rfl) ⟨rfl, rfl⟩ ⟨Nat.le_of_ble_eq_true rfl, Nat.le_of_ble_eq_true rfl⟩ (fun v_130 h_130 hp => ?_)
        refine x_iconst hC dX1_comes_133 ic_0 ?_
        obtain ⟨ho, hp⟩ := hp
        refine s_iast hC dX1_comes_134 ((fr_1_11 hq0).2) ho ?_
        refine x_goto (tgt := 148) hC dX1_comes_135 (by decide) ?_
        refine x_aload_n hC dX1_comes_148 (lm 0 rfl) ?_
        refine s_callVv (avs := []) (st := []) hC dX1_comes_149 ml_1_101 mi_X1_moveOn hq0 rfl (t_X1_moveOn hq0 hp) (Nat.le_of_ble_eq_true rfl) ⟨rfl, rfl⟩ ⟨Nat.le_of_ble_eq_true rfl, Nat.le_of_ble_eq_true rfl⟩ (fun h_149 hp => ?_)
        exact x_vret hC hE dX1_comes_152 ⟨_, rfl, rfl, hp⟩
    · have hp := hp.2 hc
      refine x_aload_n hC dX1_comes_105 (lm 0 rfl) ?_
      refine s_callVv (avs := []) (st := []) hC dX1_comes_106 ml_1_95 mi_X1_isDoubled hq0 rfl (t_X1_isDoubled hq0 hp) (Nat.le_of_ble_eq_true rfl) ⟨rfl, rfl⟩ ⟨Nat.le_of_ble_eq_true rfl, Nat.le_of_ble_eq_true rfl⟩ (fun h_106 hp => ?_)
      refine x_goto (tgt := 148) hC dX1_comes_109 (by decide) ?_
      refine x_aload_n hC dX1_comes_148 (lm 0 rfl) ?_
      refine s_callVv (avs := []) (st := []) hC dX1_comes_149 ml_1_101 mi_X1_moveOn hq0 rfl (t_X1_moveOn hq0 hp) (Nat.le_of_ble_eq_true rfl) ⟨rfl, rfl⟩ ⟨Nat.le_of_ble_eq_true rfl, Nat.le_of_ble_eq_true rfl⟩ (fun h_149 hp => ?_)
      exact x_vret hC hE dX1_comes_152 ⟨_, rfl, rfl, hp⟩
  · have hp := hp.2 hc
    refine x_aload_n hC dX1_comes_68 (lm 0 rfl) ?_
    refine s_callVv (avs := []) (st := []) hC dX1_comes_69 ml_1_95 mi_X1_isDoubled hq0 rfl (t_X1_isDoubled hq0 hp) (Nat.le_of_ble_eq_true rfl) ⟨rfl, rfl⟩ ⟨Nat.le_of_ble_eq_true rfl, Nat.le_of_ble_eq_true rfl⟩ (fun h_69 hp => ?_)
    exact x_vret hC hE dX1_comes_72 ⟨_, rfl, rfl, hp⟩
set_option maxHeartbeats 4000000 in
theorem t_X1_comes {q0 : Nat} {i1 : Int32} {i2 : Int32} {h : HP} {Q : HP → Prop} (hq0 : Ty gC q0 1 0) (hp : P_X1_comes q0 i1 i2 h Q) : MT yX1_comes cX1_comes 3 none rm_X1_comes [.ref q0, .int i1, .int i2] gC SH (emb h) (pV Q) := by
  refine MT.of (by decide +kernel) (Nat.le_of_ble_eq_true rfl) (fun C hC hE => ?_)
  show SW C gC 0 [(0, .ref q0), (1, .int i1), (2, .int i2)] [] h
  unfold P_X1_comes at hp
  refine x_aload_n hC dX1_comes_0 (lm 0 rfl) ?_
  refine s_getZ hC dX1_comes_1 fk_1_26 hq0 ?_
  refine x_if_ne (tgt := 8) hC dX1_comes_4 (by decide) (fun hc => ?_) (fun hc => ?_)
  · have hp := hp.1 hc
    refine x_iload_n hC dX1_comes_8 (lm 1 rfl) ?_
    refine x_aload_n hC dX1_comes_9 (lm 0 rfl) ?_
    refine s_getI hC dX1_comes_10 fk_1_49 hq0 ?_
    refine s_callNi (avs := [.int i1, .int (h.1 q0 7)]) (st := []) hC dX1_comes_13 nl_1_84 ms_X8_isBehind rfl (t_X8_isBehind  hp) (Nat.le_of_ble_eq_true rfl) ⟨rfl, rfl⟩ ⟨Nat.le_of_ble_eq_true rfl, Nat.le_of_ble_eq_true rfl⟩ (fun v_13 h_13 hp => ?_)
    refine x_if_ne (tgt := 57) hC dX1_comes_16 (by decide) (fun hc => ?_) (fun hc => ?_)
    · have hp := hp.1 hc
      exact x_subk [0, 1, 2] rfl (l_X1_comes_j57 hC hE hq0  hp)
    · have hp := hp.2 hc
      refine x_aload_n hC dX1_comes_19 (lm 0 rfl) ?_
      refine x_aload_n hC dX1_comes_20 (lm 0 rfl) ?_
      refine s_getI hC dX1_comes_21 fk_1_49 hq0 ?_
      refine x_iload_n hC dX1_comes_24 (lm 1 rfl) ?_
      refine s_callNi (avs := [.int (h_13.1 q0 7), .int i1]) (st := [.ref q0]) hC dX1_comes_25 nl_1_88 ms_X8_ahead rfl (t_X8_ahead  hp) (Nat.le_of_ble_eq_true rfl) ⟨rfl, rfl⟩ ⟨Nat.le_of_ble_eq_true rfl, Nat.le_of_ble_eq_true rfl⟩ (fun v_25 h_25 hp => ?_)
      refine x_aload_n hC dX1_comes_28 (lm 0 rfl) ?_
      refine s_getI hC dX1_comes_29 fk_1_40 hq0 ?_
      refine x_iconst hC dX1_comes_32 ic_1 ?_
      refine x_isub hC dX1_comes_33 ?_
      refine x_isub hC dX1_comes_34 ?_
      refine s_callVv (avs := [.int (v_25 - ((h_25.1 q0 4) - 1))]) (st := []) hC dX1_comes_35 ml_1_92 mi_X1_moveMark hq0 rfl (t_X1_moveMark hq0 hp) (Nat.le_of_ble_eq_true rfl) ⟨rfl, rfl⟩ ⟨Nat.le_of_ble_eq_true rfl, Nat.le_of_ble_eq_true rfl⟩ (fun h_35 hp => ?_)
      refine x_aload_n hC dX1_comes_38 (lm 0 rfl) ?_
      refine x_dup hC dX1_comes_39 rfl ?_
      refine s_getI hC dX1_comes_40 fk_1_52 hq0 ?_
      refine x_iconst hC dX1_comes_43 ic_1 ?_
      refine x_aload_n hC dX1_comes_44 (lm 0 rfl) ?_
      refine s_getI hC dX1_comes_45 fk_1_49 hq0 ?_
      refine x_iload_n hC dX1_comes_48 (lm 1 rfl) ?_
      refine s_callNi (avs := [.int (h_35.1 q0 7), .int i1]) (st := [.int 1, .int (h_35.1 q0 8), .ref q0]) hC dX1_comes_49 nl_1_88 ms_X8_ahead rfl (t_X8_ahead  hp) (Nat.le_of_ble_eq_true rfl) ⟨rfl, rfl⟩ ⟨Nat.le_of_ble_eq_true rfl, Nat.le_of_ble_eq_true rfl⟩ (fun v_49 h_49 hp => ?_)
      refine x_ishl hC dX1_comes_52 ?_
      refine x_ior hC dX1_comes_53 ?_
      refine s_putI hC dX1_comes_54 fk_1_52 rfl rfl hq0 ?_
      exact x_subk [0, 1, 2] rfl (l_X1_comes_j57 hC hE hq0  hp)
  · have hp := hp.2 hc
    exact x_vret hC hE dX1_comes_7 ⟨_, rfl, rfl, hp⟩
theorem dX1_bar_0 : decode cX1_bar 0 = .ok (.aload_n 0, 1) := by decide +kernel
theorem dX1_bar_1 : decode cX1_bar 1 = .ok (.getfield 26, 3) := by decide +kernel
theorem dX1_bar_4 : decode cX1_bar 4 = .ok (.ifCond .ne 4, 3) := by decide +kernel
theorem dX1_bar_7 : decode cX1_bar 7 = .ok (.return_, 1) := by decide +kernel
theorem dX1_bar_8 : decode cX1_bar 8 = .ok (.iload_n 1, 1) := by decide +kernel
theorem dX1_bar_9 : decode cX1_bar 9 = .ok (.aload_n 0, 1) := by decide +kernel
theorem dX1_bar_10 : decode cX1_bar 10 = .ok (.getfield 49, 3) := by decide +kernel
theorem dX1_bar_13 : decode cX1_bar 13 = .ok (.invokestatic 84, 3) := by decide +kernel
theorem dX1_bar_16 : decode cX1_bar 16 = .ok (.ifCond .ne 15, 3) := by decide +kernel
theorem dX1_bar_19 : decode cX1_bar 19 = .ok (.aload_n 0, 1) := by decide +kernel
theorem dX1_bar_20 : decode cX1_bar 20 = .ok (.aload_n 0, 1) := by decide +kernel
theorem dX1_bar_21 : decode cX1_bar 21 = .ok (.getfield 49, 3) := by decide +kernel
theorem dX1_bar_24 : decode cX1_bar 24 = .ok (.iload_n 1, 1) := by decide +kernel
theorem dX1_bar_25 : decode cX1_bar 25 = .ok (.invokestatic 88, 3) := by decide +kernel
theorem dX1_bar_28 : decode cX1_bar 28 = .ok (.invokevirtual 92, 3) := by decide +kernel
theorem dX1_bar_31 : decode cX1_bar 31 = .ok (.iload_n 1, 1) := by decide +kernel
theorem dX1_bar_32 : decode cX1_bar 32 = .ok (.aload_n 0, 1) := by decide +kernel
theorem dX1_bar_33 : decode cX1_bar 33 = .ok (.getfield 46, 3) := by decide +kernel
theorem dX1_bar_36 : decode cX1_bar 36 = .ok (.invokestatic 84, 3) := by decide +kernel
theorem dX1_bar_39 : decode cX1_bar 39 = .ok (.ifCond .ne 19, 3) := by decide +kernel
theorem dX1_bar_42 : decode cX1_bar 42 = .ok (.aload_n 0, 1) := by decide +kernel
theorem dX1_bar_43 : decode cX1_bar 43 = .ok (.aload_n 0, 1) := by decide +kernel
theorem dX1_bar_44 : decode cX1_bar 44 = .ok (.getfield 46, 3) := by decide +kernel
theorem dX1_bar_47 : decode cX1_bar 47 = .ok (.iload_n 1, 1) := by decide +kernel
theorem dX1_bar_48 : decode cX1_bar 48 = .ok (.invokestatic 88, 3) := by decide +kernel
theorem dX1_bar_51 : decode cX1_bar 51 = .ok (.invokevirtual 61, 3) := by decide +kernel
theorem dX1_bar_54 : decode cX1_bar 54 = .ok (.aload_n 0, 1) := by decide +kernel
theorem dX1_bar_55 : decode cX1_bar 55 = .ok (.invokevirtual 101, 3) := by decide +kernel
theorem dX1_bar_58 : decode cX1_bar 58 = .ok (.return_, 1) := by decide +kernel
abbrev rm_X1_bar : Room := { frames := 4, cells := 0, slots := 0, locals := 87 }
def P_X1_bar_j31 (q0 : Nat) (i1 : Int32) (h : HP)  (Q : HP → Prop) : Prop := P_X8_isBehind i1 (h.1 q0 6) h (fun (v_36 : Int32) (h_36 : HP) => ((¬ v_36 = 0) → Q h_36) ∧ ((v_36 = 0) → (P_X8_ahead (h_36.1 q0 6) i1 h_36 (fun (v_48 : Int32) (h_48 : HP) => P_X1_moveFrom q0 v_48 h_48 (fun (h_51 : HP) => P_X1_moveOn q0 h_51 (fun (h_55 : HP) => Q h_55))))))
def P_X1_bar (q0 : Nat) (i1 : Int32) (h : HP) (Q : HP → Prop) : Prop := ((¬ (h.1 q0 2) = 0) → (P_X8_isBehind i1 (h.1 q0 7) h (fun (v_13 : Int32) (h_13 : HP) => ((¬ v_13 = 0) → P_X1_bar_j31 q0 i1 h_13 Q) ∧ ((v_13 = 0) → (P_X8_ahead (h_13.1 q0 7) i1 h_13 (fun (v_25 : Int32) (h_25 : HP) => P_X1_moveMark q0 v_25 h_25 (fun (h_28 : HP) => P_X1_bar_j31 q0 i1 h_28 Q))))))) ∧ (((h.1 q0 2) = 0) → Q h)
set_option maxHeartbeats 4000000 in
theorem l_X1_bar_j31 {q0 : Nat} {i1 : Int32} {h : HP}  {Q : HP → Prop} {C : Cx} (hC : xOk C cX1_bar yX1_bar.cls 2 rm_X1_bar none) (hE : xEnd C gC SH (pV Q)) (hq0 : Ty gC q0 1 0)  (hp : P_X1_bar_j31 q0 i1 h  Q) : SW C gC 31 [(0, .ref q0), (1, .int i1)] [] h := by
  unfold P_X1_bar_j31 at hp
  refine x_iload_n hC dX1_bar_31 (lm 1 rfl) ?_
  refine x_aload_n hC dX1_bar_32 (lm 0 rfl) ?_
  refine s_getI hC dX1_bar_33 fk_1_46 hq0 ?_
  refine s_callNi (avs := [.int i1, .int (h.1 q0 6)]) (st := []) hC dX1_bar_36 nl_1_84 ms_X8_isBehind rfl (t_X8_isBehind  hp) (Nat.le_of_ble_eq_true rfl) ⟨rfl, rfl⟩ ⟨Nat.le_of_ble_eq_true rfl, Nat.le_of_ble_eq_true rfl⟩ (fun v_36 h_36 hp => ?_)
  refine x_if_ne (tgt := 58) hC dX1_bar_39 (by decide) (fun hc => ?_) (fun hc => ?_)
  · have hp := hp.1 hc
    exact x_vret hC hE dX1_bar_58 ⟨_, rfl, rfl, hp⟩
  · have hp := hp.2 hc
    refine x_aload_n hC dX1_bar_42 (lm 0 rfl) ?_
    refine x_aload_n hC dX1_bar_43 (lm 0 rfl) ?_
    refine s_getI hC dX1_bar_44 fk_1_46 hq0 ?_
    refine x_iload_n hC dX1_bar_47 (lm 1 rfl) ?_
    refine s_callNi (avs := [.int (h_36.1 q0 6), .int i1]) (st := [.ref q0]) hC dX1_bar_48 nl_1_88 ms_X8_ahead rfl (t_X8_ahead  hp) (Nat.le_of_ble_eq_true rfl) ⟨rfl, rfl⟩ ⟨Nat.le_of_ble_eq_true rfl, Nat.le_of_ble_eq_true rfl⟩ (fun v_48 h_48 hp => ?_)
    refine s_callVv (avs := [.int v_48]) (st := []) hC dX1_bar_51 ml_1_61 mi_X1_moveFrom hq0 rfl (t_X1_moveFrom hq0 hp) (Nat.le_of_ble_eq_true rfl) ⟨rfl, rfl⟩ ⟨Nat.le_of_ble_eq_true rfl, Nat.le_of_ble_eq_true rfl⟩ (fun h_51 hp => ?_)
    refine x_aload_n hC dX1_bar_54 (lm 0 rfl) ?_
    refine s_callVv (avs := []) (st := []) hC dX1_bar_55 ml_1_101 mi_X1_moveOn hq0 rfl (t_X1_moveOn hq0 hp) (Nat.le_of_ble_eq_true rfl) ⟨rfl, rfl⟩ ⟨Nat.le_of_ble_eq_true rfl, Nat.le_of_ble_eq_true rfl⟩ (fun h_55 hp => ?_)
    exact x_vret hC hE dX1_bar_58 ⟨_, rfl, rfl, hp⟩
set_option maxHeartbeats 4000000 in
theorem t_X1_bar {q0 : Nat} {i1 : Int32} {h : HP} {Q : HP → Prop} (hq0 : Ty gC q0 1 0) (hp : P_X1_bar q0 i1 h Q) : MT yX1_bar cX1_bar 2 none rm_X1_bar [.ref q0, .int i1] gC SH (emb h) (pV Q) := by
  refine MT.of (by decide +kernel) (Nat.le_of_ble_eq_true rfl) (fun C hC hE => ?_)
  show SW C gC 0 [(0, .ref q0), (1, .int i1)] [] h
  unfold P_X1_bar at hp
  refine x_aload_n hC dX1_bar_0 (lm 0 rfl) ?_
  refine s_getZ hC dX1_bar_1 fk_1_26 hq0 ?_
  refine x_if_ne (tgt := 8) hC dX1_bar_4 (by decide) (fun hc => ?_) (fun hc => ?_)
  · have hp := hp.1 hc
    refine x_iload_n hC dX1_bar_8 (lm 1 rfl) ?_
    refine x_aload_n hC dX1_bar_9 (lm 0 rfl) ?_
    refine s_getI hC dX1_bar_10 fk_1_49 hq0 ?_
    refine s_callNi (avs := [.int i1, .int (h.1 q0 7)]) (st := []) hC dX1_bar_13 nl_1_84 ms_X8_isBehind rfl (t_X8_isBehind  hp) (Nat.le_of_ble_eq_true rfl) ⟨rfl, rfl⟩ ⟨Nat.le_of_ble_eq_true rfl, Nat.le_of_ble_eq_true rfl⟩ (fun v_13 h_13 hp => ?_)
    refine x_if_ne (tgt := 31) hC dX1_bar_16 (by decide) (fun hc => ?_) (fun hc => ?_)
    · have hp := hp.1 hc
      exact x_subk [0, 1] rfl (l_X1_bar_j31 hC hE hq0  hp)
    · have hp := hp.2 hc
      refine x_aload_n hC dX1_bar_19 (lm 0 rfl) ?_
      refine x_aload_n hC dX1_bar_20 (lm 0 rfl) ?_
      refine s_getI hC dX1_bar_21 fk_1_49 hq0 ?_
      refine x_iload_n hC dX1_bar_24 (lm 1 rfl) ?_
      refine s_callNi (avs := [.int (h_13.1 q0 7), .int i1]) (st := [.ref q0]) hC dX1_bar_25 nl_1_88 ms_X8_ahead rfl (t_X8_ahead  hp) (Nat.le_of_ble_eq_true rfl) ⟨rfl, rfl⟩ ⟨Nat.le_of_ble_eq_true rfl, Nat.le_of_ble_eq_true rfl⟩ (fun v_25 h_25 hp => ?_)
      refine s_callVv (avs := [.int v_25]) (st := []) hC dX1_bar_28 ml_1_92 mi_X1_moveMark hq0 rfl (t_X1_moveMark hq0 hp) (Nat.le_of_ble_eq_true rfl) ⟨rfl, rfl⟩ ⟨Nat.le_of_ble_eq_true rfl, Nat.le_of_ble_eq_true rfl⟩ (fun h_28 hp => ?_)
      exact x_subk [0, 1] rfl (l_X1_bar_j31 hC hE hq0  hp)
  · have hp := hp.2 hc
    exact x_vret hC hE dX1_bar_7 ⟨_, rfl, rfl, hp⟩
