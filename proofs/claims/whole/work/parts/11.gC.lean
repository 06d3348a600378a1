theorem dX1_firstHeld_0 : decode cX1_firstHeld 0 = .ok (.iconst 0, 1) := by decide +kernel
theorem dX1_firstHeld_1 : decode cX1_firstHeld 1 = .ok (.istore_n 1, 1) := by decide +kernel
theorem dX1_firstHeld_2 : decode cX1_firstHeld 2 = .ok (.iload_n 1, 1) := by decide +kernel
theorem dX1_firstHeld_3 : decode cX1_firstHeld 3 = .ok (.aload_n 0, 1) := by decide +kernel
theorem dX1_firstHeld_4 : decode cX1_firstHeld 4 = .ok (.getfield 40, 3) := by decide +kernel
theorem dX1_firstHeld_7 : decode cX1_firstHeld 7 = .ok (.if_icmp .ge 19, 3) := by decide +kernel
theorem dX1_firstHeld_10 : decode cX1_firstHeld 10 = .ok (.aload_n 0, 1) := by decide +kernel
theorem dX1_firstHeld_11 : decode cX1_firstHeld 11 = .ok (.iload_n 1, 1) := by decide +kernel
theorem dX1_firstHeld_12 : decode cX1_firstHeld 12 = .ok (.invokevirtual 76, 3) := by decide +kernel
theorem dX1_firstHeld_15 : decode cX1_firstHeld 15 = .ok (.ifCond .eq 5, 3) := by decide +kernel
theorem dX1_firstHeld_18 : decode cX1_firstHeld 18 = .ok (.iload_n 1, 1) := by decide +kernel
theorem dX1_firstHeld_19 : decode cX1_firstHeld 19 = .ok (.ireturn, 1) := by decide +kernel
theorem dX1_firstHeld_20 : decode cX1_firstHeld 20 = .ok (.iinc 1 1, 3) := by decide +kernel
theorem dX1_firstHeld_23 : decode cX1_firstHeld 23 = .ok (.goto (-21), 3) := by decide +kernel
theorem dX1_firstHeld_26 : decode cX1_firstHeld 26 = .ok (.iconst 0, 1) := by decide +kernel
theorem dX1_firstHeld_27 : decode cX1_firstHeld 27 = .ok (.ireturn, 1) := by decide +kernel
abbrev rm_X1_firstHeld : Room := { frames := 3, cells := 0, slots := 0, locals := 62 }
def P_X1_firstHeld (q0 : Nat) (h : HP) (Q : Int32 → HP → Prop) : Prop := Lp2 (fun X_2 (i1_2 : Int32) (h_2 : HP) => (((h_2.1 q0 4) ≤ i1_2) → Q 0 h_2) ∧ ((¬ (h_2.1 q0 4) ≤ i1_2) → (P_X1_holdsAt q0 i1_2 h_2 (fun (v_12 : Int32) (h_12 : HP) => ((v_12 = 0) → (X_2 (i1_2 + 1) h_12)) ∧ ((¬ v_12 = 0) → Q i1_2 h_12))))) 0 h
set_option maxHeartbeats 4000000 in
theorem t_X1_firstHeld {q0 : Nat} {h : HP} {Q : Int32 → HP → Prop} (hq0 : Ty gC q0 1 0) (hp : P_X1_firstHeld q0 h Q) : MT yX1_firstHeld cX1_firstHeld 2 (some .int) rm_X1_firstHeld [.ref q0] gC SH (emb h) (pI Q) := by
  refine MT.of (by decide +kernel) (Nat.le_of_ble_eq_true rfl) (fun C hC hE => ?_)
  show SW C gC 0 [(0, .ref q0)] [] h
  unfold P_X1_firstHeld at hp
  refine x_iconst hC dX1_firstHeld_0 ic_0 ?_
  refine x_istore_n (lv' := [(1, .int 0), (0, .ref q0)]) hC dX1_firstHeld_1 (by decide) rfl ?_
  refine x_subk (lv' := [(0, .ref q0), (1, .int 0)]) [1, 0] rfl ?_
  refine hp (fun i1_2 h_2 => SW C gC 2 [(0, .ref q0), (1, .int i1_2)] [] h_2) (fun i1_2 h_2 hp => ?_)
  refine x_iload_n hC dX1_firstHeld_2 (lm 1 rfl) ?_
  refine x_aload_n hC dX1_firstHeld_3 (lm 0 rfl) ?_
  refine s_getI hC dX1_firstHeld_4 fk_1_40 hq0 ?_
  refine x_icmp_ge (tgt := 26) hC dX1_firstHeld_7 (by decide) (fun hc => ?_) (fun hc => ?_)
  · have hp := hp.1 hc
    refine x_iconst hC dX1_firstHeld_26 ic_0 ?_
    exact x_iret hC hE dX1_firstHeld_27 ⟨_, _, rfl, rfl, hp⟩
  · have hp := hp.2 hc
    refine x_aload_n hC dX1_firstHeld_10 (lm 0 rfl) ?_
    refine x_iload_n hC dX1_firstHeld_11 (lm 1 rfl) ?_
    refine s_callVi (avs := [.int i1_2]) (st := []) hC dX1_firstHeld_12 ml_1_76 mi_X1_holdsAt hq0 rfl (t_X1_holdsAt hq0 hp) (Nat.le_of_ble_eq_true rfl) ⟨rfl, rfl⟩ ⟨Nat.le_of_ble_eq_true rfl, Nat.le_of_ble_eq_true rfl⟩ (fun v_12 h_12 hp => ?_)
    refine x_if_eq (tgt := 20) hC dX1_firstHeld_15 (by decide) (fun hc => ?_) (fun hc => ?_)
    · have hp := hp.1 hc
      refine x_iinc (u := i1_2 + 1) (lv' := [(1, .int (i1_2 + 1)), (0, .ref q0)]) hC dX1_firstHeld_20 (lm 1 rfl) (congrArg _ ic_1) (by decide) rfl ?_
      refine x_goto (tgt := 2) hC dX1_firstHeld_23 (by decide) ?_
      exact x_subk [1, 0] rfl hp
    · have hp := hp.2 hc
      refine x_iload_n hC dX1_firstHeld_18 (lm 1 rfl) ?_
      exact x_iret hC hE dX1_firstHeld_19 ⟨_, _, rfl, rfl, hp⟩
theorem dX1_tick_0 : decode cX1_tick 0 = .ok (.aload_n 0, 1) := by decide +kernel
theorem dX1_tick_1 : decode cX1_tick 1 = .ok (.getfield 26, 3) := by decide +kernel
theorem dX1_tick_4 : decode cX1_tick 4 = .ok (.ifCond .eq 18, 3) := by decide +kernel
theorem dX1_tick_7 : decode cX1_tick 7 = .ok (.aload_n 0, 1) := by decide +kernel
theorem dX1_tick_8 : decode cX1_tick 8 = .ok (.getfield 36, 3) := by decide +kernel
theorem dX1_tick_11 : decode cX1_tick 11 = .ok (.iconst 1, 1) := by decide +kernel
theorem dX1_tick_12 : decode cX1_tick 12 = .ok (.if_icmp .ne 10, 3) := by decide +kernel
theorem dX1_tick_15 : decode cX1_tick 15 = .ok (.aload_n 0, 1) := by decide +kernel
theorem dX1_tick_16 : decode cX1_tick 16 = .ok (.invokevirtual 104, 3) := by decide +kernel
theorem dX1_tick_19 : decode cX1_tick 19 = .ok (.ifCond .ne 4, 3) := by decide +kernel
theorem dX1_tick_22 : decode cX1_tick 22 = .ok (.return_, 1) := by decide +kernel
theorem dX1_tick_23 : decode cX1_tick 23 = .ok (.aload_n 0, 1) := by decide +kernel
theorem dX1_tick_24 : decode cX1_tick 24 = .ok (.dup, 1) := by decide +kernel
theorem dX1_tick_25 : decode cX1_tick 25 = .ok (.getfield 55, 3) := by decide +kernel
theorem dX1_tick_28 : decode cX1_tick 28 = .ok (.iconst 1, 1) := by decide +kernel
theorem dX1_tick_29 : decode cX1_tick 29 = .ok (.iadd, 1) := by decide +kernel
theorem dX1_tick_30 : decode cX1_tick 30 = .ok (.putfield 55, 3) := by decide +kernel
theorem dX1_tick_33 : decode cX1_tick 33 = .ok (.aload_n 0, 1) := by decide +kernel
theorem dX1_tick_34 : decode cX1_tick 34 = .ok (.getfield 55, 3) := by decide +kernel
theorem dX1_tick_37 : decode cX1_tick 37 = .ok (.aload_n 0, 1) := by decide +kernel
theorem dX1_tick_38 : decode cX1_tick 38 = .ok (.getfield 43, 3) := by decide +kernel
theorem dX1_tick_41 : decode cX1_tick 41 = .ok (.if_icmp .lt 15, 3) := by decide +kernel
theorem dX1_tick_44 : decode cX1_tick 44 = .ok (.aload_n 0, 1) := by decide +kernel
theorem dX1_tick_45 : decode cX1_tick 45 = .ok (.aload_n 0, 1) := by decide +kernel
theorem dX1_tick_46 : decode cX1_tick 46 = .ok (.invokevirtual 108, 3) := by decide +kernel
theorem dX1_tick_49 : decode cX1_tick 49 = .ok (.invokevirtual 61, 3) := by decide +kernel
theorem dX1_tick_52 : decode cX1_tick 52 = .ok (.aload_n 0, 1) := by decide +kernel
theorem dX1_tick_53 : decode cX1_tick 53 = .ok (.invokevirtual 101, 3) := by decide +kernel
theorem dX1_tick_56 : decode cX1_tick 56 = .ok (.return_, 1) := by decide +kernel
abbrev rm_X1_tick : Room := { frames := 4, cells := 0, slots := 0, locals := 87 }
def P_X1_tick (q0 : Nat) (h : HP) (Q : HP → Prop) : Prop := (((h.1 q0 2) = 0) → Q h) ∧ ((¬ (h.1 q0 2) = 0) → (((¬ (h.1 q0 3) = 1) → Q h) ∧ (((h.1 q0 3) = 1) → (P_X1_heldCount q0 h (fun (v_16 : Int32) (h_16 : HP) => ((¬ v_16 = 0) → (((((si h_16 q0 9 ((h_16.1 q0 9) + 1)).1 q0 9) < ((si h_16 q0 9 ((h_16.1 q0 9) + 1)).1 q0 5)) → (Q (si h_16 q0 9 ((h_16.1 q0 9) + 1)))) ∧ ((¬ ((si h_16 q0 9 ((h_16.1 q0 9) + 1)).1 q0 9) < ((si h_16 q0 9 ((h_16.1 q0 9) + 1)).1 q0 5)) → (P_X1_firstHeld q0 (si h_16 q0 9 ((h_16.1 q0 9) + 1)) (fun (v_46 : Int32) (h_46 : HP) => P_X1_moveFrom q0 v_46 h_46 (fun (h_49 : HP) => P_X1_moveOn q0 h_49 (fun (h_53 : HP) => Q h_53))))))) ∧ ((v_16 = 0) → Q h_16))))))
set_option maxHeartbeats 4000000 in
theorem t_X1_tick {q0 : Nat} {h : HP} {Q : HP → Prop} (hq0 : Ty gC q0 1 0) (hp : P_X1_tick q0 h Q) : MT yX1_tick cX1_tick 1 none rm_X1_tick [.ref q0] gC SH (emb h) (pV Q) := by
  refine MT.of (by decide +kernel) (Nat.le_of_ble_eq_true rfl) (fun C hC hE => ?_)
  show SW C gC 0 [(0, .ref q0)] [] h
  unfold P_X1_tick at hp
  refine x_aload_n hC dX1_tick_0 (lm 0 rfl) ?_
  refine s_getZ hC dX1_tick_1 fk_1_26 hq0 ?_
  refine x_if_eq (tgt := 22) hC dX1_tick_4 (by decide) (fun hc => ?_) (fun hc => ?_)
  · have hp := hp.1 hc
    exact x_vret hC hE dX1_tick_22 ⟨_, rfl, rfl, hp⟩
  · have hp := hp.2 hc
    refine x_aload_n hC dX1_tick_7 (lm 0 rfl) ?_
    refine s_getI hC dX1_tick_8 fk_1_36 hq0 ?_
    refine x_iconst hC dX1_tick_11 ic_1 ?_
    refine x_icmp_ne (tgt := 22) hC dX1_tick_12 (by decide) (fun hc => ?_) (fun hc => ?_)
    · have hp := hp.1 hc
      exact x_vret hC hE dX1_tick_22 ⟨_, rfl, rfl, hp⟩
    · have hp := hp.2 hc
      refine x_aload_n hC dX1_tick_15 (lm 0 rfl) ?_
      refine s_callVi (avs := []) (st := []) hC dX1_tick_16 ml_1_104 mi_X1_heldCount hq0 rfl (t_X1_heldCount hq0 hp) (Nat.le_of_ble_eq_true rfl) ⟨rfl, rfl⟩ ⟨Nat.le_of_ble_eq_true rfl, Nat.le_of_ble_eq_true rfl⟩ (fun v_16 h_16 hp => ?_)
      refine x_if_ne (tgt := 23) hC dX1_tick_19 (by decide) (fun hc => ?_) (fun hc => ?_)
      · have hp := hp.1 hc
        refine x_aload_n hC dX1_tick_23 (lm 0 rfl) ?_
        refine x_dup hC dX1_tick_24 rfl ?_
        refine s_getI hC dX1_tick_25 fk_1_55 hq0 ?_
        refine x_iconst hC dX1_tick_28 ic_1 ?_
        refine x_iadd hC dX1_tick_29 ?_
        refine s_putI hC dX1_tick_30 fk_1_55 rfl rfl hq0 ?_
        refine x_aload_n hC dX1_tick_33 (lm 0 rfl) ?_
        refine s_getI hC dX1_tick_34 fk_1_55 hq0 ?_
        refine x_aload_n hC dX1_tick_37 (lm 0 rfl) ?_
        refine s_getI hC dX1_tick_38 fk_1_43 hq0 ?_
        refine x_icmp_lt (tgt := 56) hC dX1_tick_41 (by decide) (fun hc => ?_) (fun hc => ?_)
        · have hp := hp.1 hc
          exact x_vret hC hE dX1_tick_56 ⟨_, rfl, rfl, hp⟩
        · have hp := hp.2 hc
          refine x_aload_n hC dX1_tick_44 (lm 0 rfl) ?_
          refine x_aload_n hC dX1_tick_45 (lm 0 rfl) ?_
          refine s_callVi (avs := []) (st := [.ref q0]) hC dX1_tick_46 ml_1_108 mi_X1_firstHeld hq0 rfl (t_X1_firstHeld hq0 hp) (Nat.le_of_ble_eq_true rfl) ⟨rfl, rfl⟩ ⟨Nat.le_of_ble_eq_true rfl, Nat.le_of_ble_eq_true rfl⟩ (fun v_46 h_46 hp => ?_)
          refine s_callVv (avs := [.int v_46]) (st := []) hC dX1_tick_49 ml_1_61 mi_X1_moveFrom hq0 rfl (t_X1_moveFrom hq0 hp) (Nat.le_of_ble_eq_true rfl) ⟨rfl, rfl⟩ ⟨Nat.le_of_ble_eq_true rfl, Nat.le_of_ble_eq_true rfl⟩ (fun h_49 hp => ?_)
          refine x_aload_n hC dX1_tick_52 (lm 0 rfl) ?_
          refine s_callVv (avs := []) (st := []) hC dX1_tick_53 ml_1_101 mi_X1_moveOn hq0 rfl (t_X1_moveOn hq0 hp) (Nat.le_of_ble_eq_true rfl) ⟨rfl, rfl⟩ ⟨Nat.le_of_ble_eq_true rfl, Nat.le_of_ble_eq_true rfl⟩ (fun h_53 hp => ?_)
          exact x_vret hC hE dX1_tick_56 ⟨_, rfl, rfl, hp⟩
      · have hp := hp.2 hc
        exact x_vret hC hE dX1_tick_22 ⟨_, rfl, rfl, hp⟩
theorem dX1_tell_0 : decode cX1_tell 0 = .ok (.iload_n 1, 1) := by decide +kernel
theorem dX1_tell_1 : decode cX1_tell 1 = .ok (.ifCond .ne 11, 3) := by decide +kernel
theorem dX1_tell_4 : decode cX1_tell 4 = .ok (.aload_n 0, 1) := by decide +kernel
theorem dX1_tell_5 : decode cX1_tell 5 = .ok (.getfield 26, 3) := by decide +kernel
theorem dX1_tell_8 : decode cX1_tell 8 = .ok (.invokestatic 80, 3) := by decide +kernel
theorem dX1_tell_11 : decode cX1_tell 11 = .ok (.ireturn, 1) := by decide +kernel
theorem dX1_tell_12 : decode cX1_tell 12 = .ok (.aload_n 0, 1) := by decide +kernel
theorem dX1_tell_13 : decode cX1_tell 13 = .ok (.getfield 26, 3) := by decide +kernel
theorem dX1_tell_16 : decode cX1_tell 16 = .ok (.ifCond .ne 5, 3) := by decide +kernel
theorem dX1_tell_19 : decode cX1_tell 19 = .ok (.iconst (-1), 1) := by decide +kernel
theorem dX1_tell_20 : decode cX1_tell 20 = .ok (.ireturn, 1) := by decide +kernel
theorem dX1_tell_21 : decode cX1_tell 21 = .ok (.iload_n 1, 1) := by decide +kernel
theorem dX1_tell_22 : decode cX1_tell 22 = .ok (.tableswitch 77 1 7 #[42, 47, 52, 57, 62, 67, 72], 42) := by decide +kernel
theorem dX1_tell_64 : decode cX1_tell 64 = .ok (.aload_n 0, 1) := by decide +kernel
theorem dX1_tell_65 : decode cX1_tell 65 = .ok (.getfield 36, 3) := by decide +kernel
theorem dX1_tell_68 : decode cX1_tell 68 = .ok (.ireturn, 1) := by decide +kernel
theorem dX1_tell_69 : decode cX1_tell 69 = .ok (.aload_n 0, 1) := by decide +kernel
theorem dX1_tell_70 : decode cX1_tell 70 = .ok (.getfield 40, 3) := by decide +kernel
theorem dX1_tell_73 : decode cX1_tell 73 = .ok (.ireturn, 1) := by decide +kernel
theorem dX1_tell_74 : decode cX1_tell 74 = .ok (.aload_n 0, 1) := by decide +kernel
theorem dX1_tell_75 : decode cX1_tell 75 = .ok (.getfield 46, 3) := by decide +kernel
theorem dX1_tell_78 : decode cX1_tell 78 = .ok (.ireturn, 1) := by decide +kernel
theorem dX1_tell_79 : decode cX1_tell 79 = .ok (.aload_n 0, 1) := by decide +kernel
theorem dX1_tell_80 : decode cX1_tell 80 = .ok (.getfield 49, 3) := by decide +kernel
theorem dX1_tell_83 : decode cX1_tell 83 = .ok (.ireturn, 1) := by decide +kernel
theorem dX1_tell_84 : decode cX1_tell 84 = .ok (.aload_n 0, 1) := by decide +kernel
theorem dX1_tell_85 : decode cX1_tell 85 = .ok (.getfield 52, 3) := by decide +kernel
theorem dX1_tell_88 : decode cX1_tell 88 = .ok (.ireturn, 1) := by decide +kernel
theorem dX1_tell_89 : decode cX1_tell 89 = .ok (.aload_n 0, 1) := by decide +kernel
theorem dX1_tell_90 : decode cX1_tell 90 = .ok (.invokevirtual 104, 3) := by decide +kernel
theorem dX1_tell_93 : decode cX1_tell 93 = .ok (.ireturn, 1) := by decide +kernel
theorem dX1_tell_94 : decode cX1_tell 94 = .ok (.aload_n 0, 1) := by decide +kernel
theorem dX1_tell_95 : decode cX1_tell 95 = .ok (.getfield 55, 3) := by decide +kernel
theorem dX1_tell_98 : decode cX1_tell 98 = .ok (.ireturn, 1) := by decide +kernel
theorem dX1_tell_99 : decode cX1_tell 99 = .ok (.aload_n 0, 1) := by decide +kernel
theorem dX1_tell_100 : decode cX1_tell 100 = .ok (.getfield 58, 3) := by decide +kernel
theorem dX1_tell_103 : decode cX1_tell 103 = .ok (.ireturn, 1) := by decide +kernel
abbrev rm_X1_tell : Room := { frames := 4, cells := 0, slots := 0, locals := 84 }
def P_X1_tell (q0 : Nat) (i1 : Int32) (h : HP) (Q : Int32 → HP → Prop) : Prop := ((¬ i1 = 0) → (((¬ (h.1 q0 2) = 0) → ((i1.toInt = 1 → (Q (h.1 q0 3) h)) ∧ (i1.toInt = 2 → (Q (h.1 q0 4) h)) ∧ (i1.toInt = 3 → (Q (h.1 q0 6) h)) ∧ (i1.toInt = 4 → (Q (h.1 q0 7) h)) ∧ (i1.toInt = 5 → (Q (h.1 q0 8) h)) ∧ (i1.toInt = 6 → (P_X1_heldCount q0 h (fun (v_90 : Int32) (h_90 : HP) => Q v_90 h_90))) ∧ (i1.toInt = 7 → (Q (h.1 q0 9) h)) ∧ ((i1.toInt < 1 ∨ 7 < i1.toInt) → (Q (h.1 q0 10) h)))) ∧ (((h.1 q0 2) = 0) → (Q (-1) h)))) ∧ ((i1 = 0) → (P_X8_flag (h.1 q0 2) h (fun (v_8 : Int32) (h_8 : HP) => Q v_8 h_8)))
set_option maxHeartbeats 4000000 in
theorem t_X1_tell {q0 : Nat} {i1 : Int32} {h : HP} {Q : Int32 → HP → Prop} (hq0 : Ty gC q0 1 0) (hp : P_X1_tell q0 i1 h Q) : MT yX1_tell cX1_tell 2 (some .int) rm_X1_tell [.ref q0, .int i1] gC SH (emb h) (pI Q) := by
  refine MT.of (by decide +kernel) (Nat.le_of_ble_eq_true rfl) (fun C hC hE => ?_)
  show SW C gC 0 [(0, .ref q0), (1, .int i1)] [] h
  unfold P_X1_tell at hp
  refine x_iload_n hC dX1_tell_0 (lm 1 rfl) ?_
  refine x_if_ne (tgt := 12) hC dX1_tell_1 (by decide) (fun hc => ?_) (fun hc => ?_)
  · have hp := hp.1 hc
    refine x_aload_n hC dX1_tell_12 (lm 0 rfl) ?_
    refine s_getZ hC dX1_tell_13 fk_1_26 hq0 ?_
    refine x_if_ne (tgt := 21) hC dX1_tell_16 (by decide) (fun hc => ?_) (fun hc => ?_)
    · have hp := hp.1 hc
      refine x_iload_n hC dX1_tell_21 (lm 1 rfl) ?_
      refine x_tsw (tgt := 99) hC dX1_tell_22 [64, 69, 74, 79, 84, 89, 94] (by decide) (by decide) (by decide) (fun hc => ?_) (fun i t hi hx => ?_)
      · have hp := hp.2.2.2.2.2.2.2 hc
        refine x_aload_n hC dX1_tell_99 (lm 0 rfl) ?_
        refine s_getI hC dX1_tell_100 fk_1_58 hq0 ?_
        exact x_iret hC hE dX1_tell_103 ⟨_, _, rfl, rfl, hp⟩
      · match i, hi, hx with
        | 0, hi, hx =>
          cases hi
          have hp := hp.1 hx
          refine x_aload_n hC dX1_tell_64 (lm 0 rfl) ?_
          refine s_getI hC dX1_tell_65 fk_1_36 hq0 ?_
          exact x_iret hC hE dX1_tell_68 ⟨_, _, rfl, rfl, hp⟩
        | 1, hi, hx =>
          cases hi
          have hp := hp.2.1 hx
          refine x_aload_n hC dX1_tell_69 (lm 0 rfl) ?_
          refine s_getI hC dX1_tell_70 fk_1_40 hq0 ?_
          exact x_iret hC hE dX1_tell_73 ⟨_, _, rfl, rfl, hp⟩
        | 2, hi, hx =>
          cases hi
          have hp := hp.2.2.1 hx
          refine x_aload_n hC dX1_tell_74 (lm 0 rfl) ?_
          refine s_getI hC dX1_tell_75 fk_1_46 hq0 ?_
          exact x_iret hC hE dX1_tell_78 ⟨_, _, rfl, rfl, hp⟩
        | 3, hi, hx =>
          cases hi
          have hp := hp.2.2.2.1 hx
          refine x_aload_n hC dX1_tell_79 (lm 0 rfl) ?_
          refine s_getI hC dX1_tell_80 fk_1_49 hq0 ?_
          exact x_iret hC hE dX1_tell_83 ⟨_, _, rfl, rfl, hp⟩
        | 4, hi, hx =>
          cases hi
          have hp := hp.2.2.2.2.1 hx
          refine x_aload_n hC dX1_tell_84 (lm 0 rfl) ?_
          refine s_getI hC dX1_tell_85 fk_1_52 hq0 ?_
          exact x_iret hC hE dX1_tell_88 ⟨_, _, rfl, rfl, hp⟩
        | 5, hi, hx =>
          cases hi
          have hp := hp.2.2.2.2.2.1 hx
          refine x_aload_n hC dX1_tell_89 (lm 0 rfl) ?_
          refine s_callVi (avs := []) (st := []) hC dX1_tell_90 ml_1_104 mi_X1_heldCount hq0 rfl (t_X1_heldCount hq0 hp) (Nat.le_of_ble_eq_true rfl) ⟨rfl, rfl⟩ ⟨Nat.le_of_ble_eq_true rfl, Nat.le_of_ble_eq_true rfl⟩ (fun v_90 h_90 hp => ?_)
          exact x_iret hC hE dX1_tell_93 ⟨_, _, rfl, rfl, hp⟩
        | 6, hi, hx =>
          cases hi
          have hp := hp.2.2.2.2.2.2.1 hx
          refine x_aload_n hC dX1_tell_94 (lm 0 rfl) ?_
          refine s_getI hC dX1_tell_95 fk_1_55 hq0 ?_
          exact x_iret hC hE dX1_tell_98 ⟨_, _, rfl, rfl, hp⟩
        | i + 7, hi, hx => exact absurd hi (by simp)
    · have hp := hp.2 hc
      refine x_iconst hC dX1_tell_19 ic_m1 ?_
      exact x_iret hC hE dX1_tell_20 ⟨_, _, rfl, rfl, hp⟩
  · have hp := hp.2 hc
    refine x_aload_n hC dX1_tell_4 (lm 0 rfl) ?_
    refine s_getZ hC dX1_tell_5 fk_1_26 hq0 ?_
    refine s_callNi (avs := [.int (h.1 q0 2)]) (st := []) hC dX1_tell_8 nl_1_80 ms_X8_flag rfl (t_X8_flag  hp) (Nat.le_of_ble_eq_true rfl) ⟨rfl, rfl⟩ ⟨Nat.le_of_ble_eq_true rfl, Nat.le_of_ble_eq_true rfl⟩ (fun v_8 h_8 hp => ?_)
    exact x_iret hC hE dX1_tell_11 ⟨_, _, rfl, rfl, hp⟩
theorem dX2_begin_0 : decode cX2_begin 0 = .ok (.aload_n 0, 1) := by decide +kernel
theorem dX2_begin_1 : decode cX2_begin 1 = .ok (.iload_n 1, 1) := by decide +kernel
theorem dX2_begin_2 : decode cX2_begin 2 = .ok (.putfield 24, 3) := by decide +kernel
theorem dX2_begin_5 : decode cX2_begin 5 = .ok (.aload_n 0, 1) := by decide +kernel
theorem dX2_begin_6 : decode cX2_begin 6 = .ok (.iload_n 2, 1) := by decide +kernel
theorem dX2_begin_7 : decode cX2_begin 7 = .ok (.putfield 28, 3) := by decide +kernel
theorem dX2_begin_10 : decode cX2_begin 10 = .ok (.aload_n 0, 1) := by decide +kernel
theorem dX2_begin_11 : decode cX2_begin 11 = .ok (.iconst (-1), 1) := by decide +kernel
theorem dX2_begin_12 : decode cX2_begin 12 = .ok (.putfield 31, 3) := by decide +kernel
theorem dX2_begin_15 : decode cX2_begin 15 = .ok (.aload_n 0, 1) := by decide +kernel
theorem dX2_begin_16 : decode cX2_begin 16 = .ok (.iconst (-1), 1) := by decide +kernel
theorem dX2_begin_17 : decode cX2_begin 17 = .ok (.putfield 34, 3) := by decide +kernel
theorem dX2_begin_20 : decode cX2_begin 20 = .ok (.aload_n 0, 1) := by decide +kernel
theorem dX2_begin_21 : decode cX2_begin 21 = .ok (.iconst (-1), 1) := by decide +kernel
theorem dX2_begin_22 : decode cX2_begin 22 = .ok (.putfield 37, 3) := by decide +kernel
theorem dX2_begin_25 : decode cX2_begin 25 = .ok (.aload_n 0, 1) := by decide +kernel
theorem dX2_begin_26 : decode cX2_begin 26 = .ok (.iconst (-1), 1) := by decide +kernel
theorem dX2_begin_27 : decode cX2_begin 27 = .ok (.putfield 40, 3) := by decide +kernel
theorem dX2_begin_30 : decode cX2_begin 30 = .ok (.aload_n 0, 1) := by decide +kernel
theorem dX2_begin_31 : decode cX2_begin 31 = .ok (.iconst (-1), 1) := by decide +kernel
theorem dX2_begin_32 : decode cX2_begin 32 = .ok (.putfield 43, 3) := by decide +kernel
theorem dX2_begin_35 : decode cX2_begin 35 = .ok (.aload_n 0, 1) := by decide +kernel
theorem dX2_begin_36 : decode cX2_begin 36 = .ok (.iconst 0, 1) := by decide +kernel
theorem dX2_begin_37 : decode cX2_begin 37 = .ok (.putfield 46, 3) := by decide +kernel
theorem dX2_begin_40 : decode cX2_begin 40 = .ok (.return_, 1) := by decide +kernel
abbrev rm_X2_begin : Room := { frames := 0, cells := 0, slots := 0, locals := 0 }
def P_X2_begin (q0 : Nat) (i1 : Int32) (i2 : Int32) (h : HP) (Q : HP → Prop) : Prop := Q (si (si (si (si (si (si (si (si h q0 0 i1) q0 1 i2) q0 2 (-1)) q0 3 (-1)) q0 4 (-1)) q0 5 (-1)) q0 6 (-1)) q0 7 0)
set_option maxHeartbeats 4000000 in
theorem t_X2_begin {q0 : Nat} {i1 : Int32} {i2 : Int32} {h : HP} {Q : HP → Prop} (hq0 : Ty gC q0 2 0) (hp : P_X2_begin q0 i1 i2 h Q) : MT yX2_begin cX2_begin 3 none rm_X2_begin [.ref q0, .int i1, .int i2] gC SH (emb h) (pV Q) := by
  refine MT.of (by decide +kernel) (Nat.le_of_ble_eq_true rfl) (fun C hC hE => ?_)
  show SW C gC 0 [(0, .ref q0), (1, .int i1), (2, .int i2)] [] h
  unfold P_X2_begin at hp
  refine x_aload_n hC dX2_begin_0 (lm 0 rfl) ?_
  refine x_iload_n hC dX2_begin_1 (lm 1 rfl) ?_
  refine s_putI hC dX2_begin_2 fk_2_24 rfl rfl hq0 ?_
  refine x_aload_n hC dX2_begin_5 (lm 0 rfl) ?_
  refine x_iload_n hC dX2_begin_6 (lm 2 rfl) ?_
  refine s_putI hC dX2_begin_7 fk_2_28 rfl rfl hq0 ?_
  refine x_aload_n hC dX2_begin_10 (lm 0 rfl) ?_
  refine x_iconst hC dX2_begin_11 ic_m1 ?_
  refine s_putI hC dX2_begin_12 fk_2_31 rfl rfl hq0 ?_
  refine x_aload_n hC dX2_begin_15 (lm 0 rfl) ?_
  refine x_iconst hC dX2_begin_16 ic_m1 ?_
  refine s_putI hC dX2_begin_17 fk_2_34 rfl rfl hq0 ?_
  refine x_aload_n hC dX2_begin_20 (lm 0 rfl) ?_
  refine x_iconst hC dX2_begin_21 ic_m1 ?_
  refine s_putI hC dX2_begin_22 fk_2_37 rfl rfl hq0 ?_
  refine x_aload_n hC dX2_begin_25 (lm 0 rfl) ?_
  refine x_iconst hC dX2_begin_26 ic_m1 ?_
  refine s_putI hC dX2_begin_27 fk_2_40 rfl rfl hq0 ?_
  refine x_aload_n hC dX2_begin_30 (lm 0 rfl) ?_
  refine x_iconst hC dX2_begin_31 ic_m1 ?_
  refine s_putI hC dX2_begin_32 fk_2_43 rfl rfl hq0 ?_
  refine x_aload_n hC dX2_begin_35 (lm 0 rfl) ?_
  refine x_iconst hC dX2_begin_36 ic_0 ?_
  refine s_putI hC dX2_begin_37 fk_2_46 rfl rfl hq0 ?_
  exact x_vret hC hE dX2_begin_40 ⟨_, rfl, rfl, hp⟩
theorem dX2_goesToFarEnd_0 : decode cX2_goesToFarEnd 0 = .ok (.aload_n 0, 1) := by decide +kernel
theorem dX2_goesToFarEnd_1 : decode cX2_goesToFarEnd 1 = .ok (.getfield 28, 3) := by decide +kernel
theorem dX2_goesToFarEnd_4 : decode cX2_goesToFarEnd 4 = .ok (.iconst 1, 1) := by decide +kernel
theorem dX2_goesToFarEnd_5 : decode cX2_goesToFarEnd 5 = .ok (.if_icmp .eq 15, 3) := by decide +kernel
theorem dX2_goesToFarEnd_8 : decode cX2_goesToFarEnd 8 = .ok (.aload_n 0, 1) := by decide +kernel
theorem dX2_goesToFarEnd_9 : decode cX2_goesToFarEnd 9 = .ok (.getfield 28, 3) := by decide +kernel
theorem dX2_goesToFarEnd_12 : decode cX2_goesToFarEnd 12 = .ok (.iconst 4, 1) := by decide +kernel
theorem dX2_goesToFarEnd_13 : decode cX2_goesToFarEnd 13 = .ok (.if_icmp .eq 7, 3) := by decide +kernel
theorem dX2_goesToFarEnd_16 : decode cX2_goesToFarEnd 16 = .ok (.iconst 1, 1) := by decide +kernel
theorem dX2_goesToFarEnd_17 : decode cX2_goesToFarEnd 17 = .ok (.goto 4, 3) := by decide +kernel
theorem dX2_goesToFarEnd_20 : decode cX2_goesToFarEnd 20 = .ok (.iconst 0, 1) := by decide +kernel
theorem dX2_goesToFarEnd_21 : decode cX2_goesToFarEnd 21 = .ok (.ireturn, 1) := by decide +kernel
abbrev rm_X2_goesToFarEnd : Room := { frames := 0, cells := 0, slots := 0, locals := 0 }
def P_X2_goesToFarEnd (q0 : Nat) (h : HP) (Q : Int32 → HP → Prop) : Prop := (((h.1 q0 1) = 1) → Q 0 h) ∧ ((¬ (h.1 q0 1) = 1) → ((((h.1 q0 1) = 4) → Q 0 h) ∧ ((¬ (h.1 q0 1) = 4) → Q 1 h)))
set_option maxHeartbeats 4000000 in
theorem t_X2_goesToFarEnd {q0 : Nat} {h : HP} {Q : Int32 → HP → Prop} (hq0 : Ty gC q0 2 0) (hp : P_X2_goesToFarEnd q0 h Q) : MT yX2_goesToFarEnd cX2_goesToFarEnd 1 (some .boolean) rm_X2_goesToFarEnd [.ref q0] gC SH (emb h) (pI Q) := by
  refine MT.of (by decide +kernel) (Nat.le_of_ble_eq_true rfl) (fun C hC hE => ?_)
  show SW C gC 0 [(0, .ref q0)] [] h
  unfold P_X2_goesToFarEnd at hp
  refine x_aload_n hC dX2_goesToFarEnd_0 (lm 0 rfl) ?_
  refine s_getI hC dX2_goesToFarEnd_1 fk_2_28 hq0 ?_
  refine x_iconst hC dX2_goesToFarEnd_4 ic_1 ?_
  refine x_icmp_eq (tgt := 20) hC dX2_goesToFarEnd_5 (by decide) (fun hc => ?_) (fun hc => ?_)
  · have hp := hp.1 hc
    refine x_iconst hC dX2_goesToFarEnd_20 ic_0 ?_
    exact x_zret hC hE dX2_goesToFarEnd_21 (Or.inl rfl) ⟨_, _, rfl, rfl, hp⟩
  · have hp := hp.2 hc
    refine x_aload_n hC dX2_goesToFarEnd_8 (lm 0 rfl) ?_
    refine s_getI hC dX2_goesToFarEnd_9 fk_2_28 hq0 ?_
    refine x_iconst hC dX2_goesToFarEnd_12 ic_4 ?_
    refine x_icmp_eq (tgt := 20) hC dX2_goesToFarEnd_13 (by decide) (fun hc => ?_) (fun hc => ?_)
    · have hp := hp.1 hc
      refine x_iconst hC dX2_goesToFarEnd_20 ic_0 ?_
      exact x_zret hC hE dX2_goesToFarEnd_21 (Or.inl rfl) ⟨_, _, rfl, rfl, hp⟩
    · have hp := hp.2 hc
      refine x_iconst hC dX2_goesToFarEnd_16 ic_1 ?_
      refine x_goto (tgt := 21) hC dX2_goesToFarEnd_17 (by decide) ?_
      exact x_zret hC hE dX2_goesToFarEnd_21 (Or.inr rfl) ⟨_, _, rfl, rfl, hp⟩
theorem dX2_hasFrame_0 : decode cX2_hasFrame 0 = .ok (.iload_n 1, 1) := by decide +kernel
theorem dX2_hasFrame_1 : decode cX2_hasFrame 1 = .ok (.iconst 0, 1) := by decide +kernel
theorem dX2_hasFrame_2 : decode cX2_hasFrame 2 = .ok (.aload_n 0, 1) := by decide +kernel
theorem dX2_hasFrame_3 : decode cX2_hasFrame 3 = .ok (.getfield 46, 3) := by decide +kernel
theorem dX2_hasFrame_6 : decode cX2_hasFrame 6 = .ok (.iconst 1, 1) := by decide +kernel
theorem dX2_hasFrame_7 : decode cX2_hasFrame 7 = .ok (.isub, 1) := by decide +kernel
theorem dX2_hasFrame_8 : decode cX2_hasFrame 8 = .ok (.invokestatic 49, 3) := by decide +kernel
theorem dX2_hasFrame_11 : decode cX2_hasFrame 11 = .ok (.ireturn, 1) := by decide +kernel
abbrev rm_X2_hasFrame : Room := { frames := 1, cells := 0, slots := 0, locals := 22 }
def P_X2_hasFrame (q0 : Nat) (i1 : Int32) (h : HP) (Q : Int32 → HP → Prop) : Prop := P_X8_within i1 0 ((h.1 q0 7) - 1) h (fun (v_8 : Int32) (h_8 : HP) => (v_8 = 0 ∨ v_8 = 1) ∧ Q v_8 h_8)
set_option maxHeartbeats 4000000 in
theorem t_X2_hasFrame {q0 : Nat} {i1 : Int32} {h : HP} {Q : Int32 → HP → Prop} (hq0 : Ty gC q0 2 0) (hp : P_X2_hasFrame q0 i1 h Q) : MT yX2_hasFrame cX2_hasFrame 2 (some .boolean) rm_X2_hasFrame [.ref q0, .int i1] gC SH (emb h) (pI Q) := by
  refine MT.of (by decide +kernel) (Nat.le_of_ble_eq_true rfl) (fun C hC hE => ?_)
  show SW C gC 0 [(0, .ref q0), (1, .int i1)] [] h
  unfold P_X2_hasFrame at hp
  refine x_iload_n hC dX2_hasFrame_0 (lm 1 rfl) ?_
  refine x_iconst hC dX2_hasFrame_1 ic_0 ?_
  refine x_aload_n hC dX2_hasFrame_2 (lm 0 rfl) ?_
  refine s_getI hC dX2_hasFrame_3 fk_2_46 hq0 ?_
  refine x_iconst hC dX2_hasFrame_6 ic_1 ?_
  refine x_isub hC dX2_hasFrame_7 ?_
  refine s_callNi (avs := [.int i1, .int 0, .int ((h.1 q0 7) - 1)]) (st := []) hC dX2_hasFrame_8 nl_2_49 ms_X8_within rfl (t_X8_within  hp) (Nat.le_of_ble_eq_true rfl) ⟨rfl, rfl⟩ ⟨Nat.le_of_ble_eq_true rfl, Nat.le_of_ble_eq_true rfl⟩ (fun v_8 h_8 hp => ?_)
  obtain ⟨ho, hp⟩ := hp
  exact x_zret hC hE dX2_hasFrame_11 ho ⟨_, _, rfl, rfl, hp⟩
theorem dX8_turn_0 : decode cX8_turn 0 = .ok (.iload_n 0, 1) := by decide +kernel
theorem dX8_turn_1 : decode cX8_turn 1 = .ok (.iload_n 1, 1) := by decide +kernel
theorem dX8_turn_2 : decode cX8_turn 2 = .ok (.ixor, 1) := by decide +kernel
theorem dX8_turn_3 : decode cX8_turn 3 = .ok (.istore_n 2, 1) := by decide +kernel
theorem dX8_turn_4 : decode cX8_turn 4 = .ok (.iconst 0, 1) := by decide +kernel
theorem dX8_turn_5 : decode cX8_turn 5 = .ok (.istore_n 3, 1) := by decide +kernel
theorem dX8_turn_6 : decode cX8_turn 6 = .ok (.iload_n 3, 1) := by decide +kernel
theorem dX8_turn_7 : decode cX8_turn 7 = .ok (.bipush 8, 2) := by decide +kernel
theorem dX8_turn_9 : decode cX8_turn 9 = .ok (.if_icmp .ge 36, 3) := by decide +kernel
theorem dX8_turn_12 : decode cX8_turn 12 = .ok (.iload_n 2, 1) := by decide +kernel
theorem dX8_turn_13 : decode cX8_turn 13 = .ok (.bipush 7, 2) := by decide +kernel
theorem dX8_turn_15 : decode cX8_turn 15 = .ok (.ishr, 1) := by decide +kernel
theorem dX8_turn_16 : decode cX8_turn 16 = .ok (.iconst 1, 1) := by decide +kernel
theorem dX8_turn_17 : decode cX8_turn 17 = .ok (.iand, 1) := by decide +kernel
theorem dX8_turn_18 : decode cX8_turn 18 = .ok (.istore 4, 2) := by decide +kernel
theorem dX8_turn_20 : decode cX8_turn 20 = .ok (.iload_n 2, 1) := by decide +kernel
theorem dX8_turn_21 : decode cX8_turn 21 = .ok (.iconst 1, 1) := by decide +kernel
theorem dX8_turn_22 : decode cX8_turn 22 = .ok (.ishl, 1) := by decide +kernel
theorem dX8_turn_23 : decode cX8_turn 23 = .ok (.sipush 255, 3) := by decide +kernel
theorem dX8_turn_26 : decode cX8_turn 26 = .ok (.iand, 1) := by decide +kernel
theorem dX8_turn_27 : decode cX8_turn 27 = .ok (.istore_n 2, 1) := by decide +kernel
theorem dX8_turn_28 : decode cX8_turn 28 = .ok (.iload 4, 2) := by decide +kernel
theorem dX8_turn_30 : decode cX8_turn 30 = .ok (.iconst 1, 1) := by decide +kernel
theorem dX8_turn_31 : decode cX8_turn 31 = .ok (.if_icmp .ne 8, 3) := by decide +kernel
theorem dX8_turn_34 : decode cX8_turn 34 = .ok (.iload_n 2, 1) := by decide +kernel
theorem dX8_turn_35 : decode cX8_turn 35 = .ok (.bipush 7, 2) := by decide +kernel
theorem dX8_turn_37 : decode cX8_turn 37 = .ok (.ixor, 1) := by decide +kernel
theorem dX8_turn_38 : decode cX8_turn 38 = .ok (.istore_n 2, 1) := by decide +kernel
theorem dX8_turn_39 : decode cX8_turn 39 = .ok (.iinc 3 1, 3) := by decide +kernel
theorem dX8_turn_42 : decode cX8_turn 42 = .ok (.goto (-36), 3) := by decide +kernel
theorem dX8_turn_45 : decode cX8_turn 45 = .ok (.iload_n 2, 1) := by decide +kernel
theorem dX8_turn_46 : decode cX8_turn 46 = .ok (.ireturn, 1) := by decide +kernel
abbrev rm_X8_turn : Room := { frames := 0, cells := 0, slots := 0, locals := 0 }
def P_X8_turn (i0 : Int32) (i1 : Int32) (h : HP) (Q : Int32 → HP → Prop) : Prop := Lp3 (fun X_6 (i2_6 : Int32) (i3_6 : Int32) (h_6 : HP) => ((8 ≤ i3_6) → Q i2_6 h_6) ∧ ((¬ 8 ≤ i3_6) → (((¬ ((i2_6 >>> (7 &&& 31)) &&& 1) = 1) → (X_6 ((i2_6 <<< (1 &&& 31)) &&& 255) (i3_6 + 1) h_6)) ∧ ((((i2_6 >>> (7 &&& 31)) &&& 1) = 1) → (X_6 (((i2_6 <<< (1 &&& 31)) &&& 255) ^^^ 7) (i3_6 + 1) h_6))))) (i0 ^^^ i1) 0 h
set_option maxHeartbeats 4000000 in
theorem t_X8_turn {i0 : Int32} {i1 : Int32} {h : HP} {Q : Int32 → HP → Prop}  (hp : P_X8_turn i0 i1 h Q) : MT yX8_turn cX8_turn 5 (some .int) rm_X8_turn [.int i0, .int i1] gC SH (emb h) (pI Q) := by
  refine MT.of (by decide +kernel) (Nat.le_of_ble_eq_true rfl) (fun C hC hE => ?_)
  show SW C gC 0 [(0, .int i0), (1, .int i1)] [] h
  unfold P_X8_turn at hp
  refine x_iload_n hC dX8_turn_0 (lm 0 rfl) ?_
  refine x_iload_n hC dX8_turn_1 (lm 1 rfl) ?_
  refine x_ixor hC dX8_turn_2 ?_
  refine x_istore_n (lv' := [(2, .int (i0 ^^^ i1)), (0, .int i0), (1, .int i1)]) hC dX8_turn_3 (by decide) rfl ?_
  refine x_iconst hC dX8_turn_4 ic_0 ?_
  refine x_istore_n (lv' := [(3, .int 0), (2, .int (i0 ^^^ i1)), (0, .int i0), (1, .int i1)]) hC dX8_turn_5 (by decide) rfl ?_
  refine x_subk (lv' := [(2, .int (i0 ^^^ i1)), (3, .int 0)]) [1, 0] rfl ?_
  refine hp (fun i2_6 i3_6 h_6 => SW C gC 6 [(2, .int i2_6), (3, .int i3_6)] [] h_6) (fun i2_6 i3_6 h_6 hp => ?_)
  refine x_iload_n hC dX8_turn_6 (lm 1 rfl) ?_
  refine x_bipush hC dX8_turn_7 bp_8 ?_
  refine x_icmp_ge (tgt := 45) hC dX8_turn_9 (by decide) (fun hc => ?_) (fun hc => ?_)
  · have hp := hp.1 hc
    refine x_iload_n hC dX8_turn_45 (lm 0 rfl) ?_
    exact x_iret hC hE dX8_turn_46 ⟨_, _, rfl, rfl, hp⟩
  · have hp := hp.2 hc
    refine x_iload_n hC dX8_turn_12 (lm 0 rfl) ?_
    refine x_bipush hC dX8_turn_13 bp_7 ?_
    refine x_ishr hC dX8_turn_15 ?_
    refine x_iconst hC dX8_turn_16 ic_1 ?_
    refine x_iand hC dX8_turn_17 ?_
    refine x_istore (lv' := [(4, .int ((i2_6 >>> (7 &&& 31)) &&& 1)), (2, .int i2_6), (3, .int i3_6)]) hC dX8_turn_18 (by decide) rfl ?_
    refine x_iload_n hC dX8_turn_20 (lm 1 rfl) ?_
    refine x_iconst hC dX8_turn_21 ic_1 ?_
    refine x_ishl hC dX8_turn_22 ?_
    refine x_sipush hC dX8_turn_23 sp_255 ?_
    refine x_iand hC dX8_turn_26 ?_
    refine x_istore_n (lv' := [(2, .int ((i2_6 <<< (1 &&& 31)) &&& 255)), (4, .int ((i2_6 >>> (7 &&& 31)) &&& 1)), (3, .int i3_6)]) hC dX8_turn_27 (by decide) rfl ?_
    refine x_iload hC dX8_turn_28 (lm 1 rfl) ?_
    refine x_iconst hC dX8_turn_30 ic_1 ?_
    refine x_icmp_ne (tgt := 39) hC dX8_turn_31 (by decide) (fun hc => ?_) (fun hc => ?_)
    · have hp := hp.1 hc
      refine x_iinc (u := i3_6 + 1) (lv' := [(3, .int (i3_6 + 1)), (2, .int ((i2_6 <<< (1 &&& 31)) &&& 255)), (4, .int ((i2_6 >>> (7 &&& 31)) &&& 1))]) hC dX8_turn_39 (lm 2 rfl) (congrArg _ ic_1) (by decide) rfl ?_
      refine x_goto (tgt := 6) hC dX8_turn_42 (by decide) ?_
      exact x_subk [1, 0] rfl hp
    · have hp := hp.2 hc
      refine x_iload_n hC dX8_turn_34 (lm 0 rfl) ?_
      refine x_bipush hC dX8_turn_35 bp_7 ?_
      refine x_ixor hC dX8_turn_37 ?_
      refine x_istore_n (lv' := [(2, .int (((i2_6 <<< (1 &&& 31)) &&& 255) ^^^ 7)), (4, .int ((i2_6 >>> (7 &&& 31)) &&& 1)), (3, .int i3_6)]) hC dX8_turn_38 (by decide) rfl ?_
      refine x_iinc (u := i3_6 + 1) (lv' := [(3, .int (i3_6 + 1)), (2, .int (((i2_6 <<< (1 &&& 31)) &&& 255) ^^^ 7)), (4, .int ((i2_6 >>> (7 &&& 31)) &&& 1))]) hC dX8_turn_39 (lm 2 rfl) (congrArg _ ic_1) (by decide) rfl ?_
      refine x_goto (tgt := 6) hC dX8_turn_42 (by decide) ?_
      exact x_subk [1, 0] rfl hp
theorem dX8_checkOf_0 : decode cX8_checkOf 0 = .ok (.iconst 0, 1) := by decide +kernel
theorem dX8_checkOf_1 : decode cX8_checkOf 1 = .ok (.iload_n 0, 1) := by decide +kernel
theorem dX8_checkOf_2 : decode cX8_checkOf 2 = .ok (.invokestatic 357, 3) := by decide +kernel
theorem dX8_checkOf_5 : decode cX8_checkOf 5 = .ok (.istore 4, 2) := by decide +kernel
theorem dX8_checkOf_7 : decode cX8_checkOf 7 = .ok (.iload 4, 2) := by decide +kernel
theorem dX8_checkOf_9 : decode cX8_checkOf 9 = .ok (.iload_n 1, 1) := by decide +kernel
theorem dX8_checkOf_10 : decode cX8_checkOf 10 = .ok (.invokestatic 357, 3) := by decide +kernel
theorem dX8_checkOf_13 : decode cX8_checkOf 13 = .ok (.istore 4, 2) := by decide +kernel
theorem dX8_checkOf_15 : decode cX8_checkOf 15 = .ok (.iload 4, 2) := by decide +kernel
theorem dX8_checkOf_17 : decode cX8_checkOf 17 = .ok (.iload_n 2, 1) := by decide +kernel
theorem dX8_checkOf_18 : decode cX8_checkOf 18 = .ok (.sipush 256, 3) := by decide +kernel
theorem dX8_checkOf_21 : decode cX8_checkOf 21 = .ok (.idiv, 1) := by decide +kernel
theorem dX8_checkOf_22 : decode cX8_checkOf 22 = .ok (.invokestatic 357, 3) := by decide +kernel
theorem dX8_checkOf_25 : decode cX8_checkOf 25 = .ok (.istore 4, 2) := by decide +kernel
theorem dX8_checkOf_27 : decode cX8_checkOf 27 = .ok (.iload 4, 2) := by decide +kernel
theorem dX8_checkOf_29 : decode cX8_checkOf 29 = .ok (.iload_n 2, 1) := by decide +kernel
theorem dX8_checkOf_30 : decode cX8_checkOf 30 = .ok (.sipush 256, 3) := by decide +kernel
theorem dX8_checkOf_33 : decode cX8_checkOf 33 = .ok (.irem, 1) := by decide +kernel
theorem dX8_checkOf_34 : decode cX8_checkOf 34 = .ok (.invokestatic 357, 3) := by decide +kernel
theorem dX8_checkOf_37 : decode cX8_checkOf 37 = .ok (.istore 4, 2) := by decide +kernel
theorem dX8_checkOf_39 : decode cX8_checkOf 39 = .ok (.iload 4, 2) := by decide +kernel
theorem dX8_checkOf_41 : decode cX8_checkOf 41 = .ok (.iload_n 3, 1) := by decide +kernel
theorem dX8_checkOf_42 : decode cX8_checkOf 42 = .ok (.invokestatic 357, 3) := by decide +kernel
theorem dX8_checkOf_45 : decode cX8_checkOf 45 = .ok (.ireturn, 1) := by decide +kernel
abbrev rm_X8_checkOf : Room := { frames := 1, cells := 0, slots := 0, locals := 24 }
def P_X8_checkOf (i0 : Int32) (i1 : Int32) (i2 : Int32) (i3 : Int32) (h : HP) (Q : Int32 → HP → Prop) : Prop := P_X8_turn 0 i0 h (fun (v_2 : Int32) (h_2 : HP) => P_X8_turn v_2 i1 h_2 (fun (v_10 : Int32) (h_10 : HP) => P_X8_turn v_10 (i2 / 256) h_10 (fun (v_22 : Int32) (h_22 : HP) => P_X8_turn v_22 (i2 - i2 / 256 * 256) h_22 (fun (v_34 : Int32) (h_34 : HP) => P_X8_turn v_34 i3 h_34 (fun (v_42 : Int32) (h_42 : HP) => Q v_42 h_42)))))
set_option maxHeartbeats 4000000 in
theorem t_X8_checkOf {i0 : Int32} {i1 : Int32} {i2 : Int32} {i3 : Int32} {h : HP} {Q : Int32 → HP → Prop}  (hp : P_X8_checkOf i0 i1 i2 i3 h Q) : MT yX8_checkOf cX8_checkOf 5 (some .int) rm_X8_checkOf [.int i0, .int i1, .int i2, .int i3] gC SH (emb h) (pI Q) := by
  refine MT.of (by decide +kernel) (Nat.le_of_ble_eq_true rfl) (fun C hC hE => ?_)
  show SW C gC 0 [(0, .int i0), (1, .int i1), (2, .int i2), (3, .int i3)] [] h
  unfold P_X8_checkOf at hp
  refine x_iconst hC dX8_checkOf_0 ic_0 ?_
  refine x_iload_n hC dX8_checkOf_1 (lm 0 rfl) ?_
  refine s_callSi (avs := [.int 0, .int i0]) (st := []) hC dX8_checkOf_2 ml_8_357 ms_X8_turn rfl (t_X8_turn  hp) (Nat.le_of_ble_eq_true rfl) ⟨rfl, rfl⟩ ⟨Nat.le_of_ble_eq_true rfl, Nat.le_of_ble_eq_true rfl⟩ (fun v_2 h_2 hp => ?_)
  refine x_istore (lv' := [(4, .int v_2), (0, .int i0), (1, .int i1), (2, .int i2), (3, .int i3)]) hC dX8_checkOf_5 (by decide) rfl ?_
  refine x_iload hC dX8_checkOf_7 (lm 0 rfl) ?_
  refine x_iload_n hC dX8_checkOf_9 (lm 2 rfl) ?_
  refine s_callSi (avs := [.int v_2, .int i1]) (st := []) hC dX8_checkOf_10 ml_8_357 ms_X8_turn rfl (t_X8_turn  hp) (Nat.le_of_ble_eq_true rfl) ⟨rfl, rfl⟩ ⟨Nat.le_of_ble_eq_true rfl, Nat.le_of_ble_eq_true rfl⟩ (fun v_10 h_10 hp => ?_)
  refine x_istore (lv' := [(4, .int v_10), (0, .int i0), (1, .int i1), (2, .int i2), (3, .int i3)]) hC dX8_checkOf_13 (by decide) rfl ?_
  refine x_iload hC dX8_checkOf_15 (lm 0 rfl) ?_
  refine x_iload_n hC dX8_checkOf_17 (lm 3 rfl) ?_
  refine x_sipush hC dX8_checkOf_18 sp_256 ?_
  refine x_idiv hC dX8_checkOf_21 (by decide) ?_
  refine s_callSi (avs := [.int v_10, .int (i2 / 256)]) (st := []) hC dX8_checkOf_22 ml_8_357 ms_X8_turn rfl (t_X8_turn  hp) (Nat.le_of_ble_eq_true rfl) ⟨rfl, rfl⟩ ⟨Nat.le_of_ble_eq_true rfl, Nat.le_of_ble_eq_true rfl⟩ (fun v_22 h_22 hp => ?_)
  refine x_istore (lv' := [(4, .int v_22), (0, .int i0), (1, .int i1), (2, .int i2), (3, .int i3)]) hC dX8_checkOf_25 (by decide) rfl ?_
  refine x_iload hC dX8_checkOf_27 (lm 0 rfl) ?_
  refine x_iload_n hC dX8_checkOf_29 (lm 3 rfl) ?_
  refine x_sipush hC dX8_checkOf_30 sp_256 ?_
  refine x_irem hC dX8_checkOf_33 (by decide) ?_
  refine s_callSi (avs := [.int v_22, .int (i2 - i2 / 256 * 256)]) (st := []) hC dX8_checkOf_34 ml_8_357 ms_X8_turn rfl (t_X8_turn  hp) (Nat.le_of_ble_eq_true rfl) ⟨rfl, rfl⟩ ⟨Nat.le_of_ble_eq_true rfl, Nat.le_of_ble_eq_true rfl⟩ (fun v_34 h_34 hp => ?_)
  refine x_istore (lv' := [(4, .int v_34), (0, .int i0), (1, .int i1), (2, .int i2), (3, .int i3)]) hC dX8_checkOf_37 (by decide) rfl ?_
  refine x_iload hC dX8_checkOf_39 (lm 0 rfl) ?_
  refine x_iload_n hC dX8_checkOf_41 (lm 4 rfl) ?_
  refine s_callSi (avs := [.int v_34, .int i3]) (st := []) hC dX8_checkOf_42 ml_8_357 ms_X8_turn rfl (t_X8_turn  hp) (Nat.le_of_ble_eq_true rfl) ⟨rfl, rfl⟩ ⟨Nat.le_of_ble_eq_true rfl, Nat.le_of_ble_eq_true rfl⟩ (fun v_42 h_42 hp => ?_)
  exact x_iret hC hE dX8_checkOf_45 ⟨_, _, rfl, rfl, hp⟩
theorem dX2_bind_0 : decode cX2_bind 0 = .ok (.aload_n 0, 1) := by decide +kernel
theorem dX2_bind_1 : decode cX2_bind 1 = .ok (.getfield 46, 3) := by decide +kernel
theorem dX2_bind_4 : decode cX2_bind 4 = .ok (.bipush 8, 2) := by decide +kernel
theorem dX2_bind_6 : decode cX2_bind 6 = .ok (.if_icmp .ge 62, 3) := by decide +kernel
theorem dX2_bind_9 : decode cX2_bind 9 = .ok (.aload_n 0, 1) := by decide +kernel
theorem dX2_bind_10 : decode cX2_bind 10 = .ok (.getfield 11, 3) := by decide +kernel
theorem dX2_bind_13 : decode cX2_bind 13 = .ok (.aload_n 0, 1) := by decide +kernel
theorem dX2_bind_14 : decode cX2_bind 14 = .ok (.getfield 46, 3) := by decide +kernel
theorem dX2_bind_17 : decode cX2_bind 17 = .ok (.iload_n 1, 1) := by decide +kernel
theorem dX2_bind_18 : decode cX2_bind 18 = .ok (.iastore, 1) := by decide +kernel
theorem dX2_bind_19 : decode cX2_bind 19 = .ok (.aload_n 0, 1) := by decide +kernel
theorem dX2_bind_20 : decode cX2_bind 20 = .ok (.getfield 15, 3) := by decide +kernel
theorem dX2_bind_23 : decode cX2_bind 23 = .ok (.aload_n 0, 1) := by decide +kernel
theorem dX2_bind_24 : decode cX2_bind 24 = .ok (.getfield 46, 3) := by decide +kernel
theorem dX2_bind_27 : decode cX2_bind 27 = .ok (.iload_n 2, 1) := by decide +kernel
theorem dX2_bind_28 : decode cX2_bind 28 = .ok (.iastore, 1) := by decide +kernel
theorem dX2_bind_29 : decode cX2_bind 29 = .ok (.aload_n 0, 1) := by decide +kernel
theorem dX2_bind_30 : decode cX2_bind 30 = .ok (.getfield 18, 3) := by decide +kernel
theorem dX2_bind_33 : decode cX2_bind 33 = .ok (.aload_n 0, 1) := by decide +kernel
theorem dX2_bind_34 : decode cX2_bind 34 = .ok (.getfield 46, 3) := by decide +kernel
theorem dX2_bind_37 : decode cX2_bind 37 = .ok (.iload_n 3, 1) := by decide +kernel
theorem dX2_bind_38 : decode cX2_bind 38 = .ok (.iastore, 1) := by decide +kernel
theorem dX2_bind_39 : decode cX2_bind 39 = .ok (.aload_n 0, 1) := by decide +kernel
theorem dX2_bind_40 : decode cX2_bind 40 = .ok (.getfield 21, 3) := by decide +kernel
theorem dX2_bind_43 : decode cX2_bind 43 = .ok (.aload_n 0, 1) := by decide +kernel
theorem dX2_bind_44 : decode cX2_bind 44 = .ok (.getfield 46, 3) := by decide +kernel
theorem dX2_bind_47 : decode cX2_bind 47 = .ok (.aload_n 0, 1) := by decide +kernel
theorem dX2_bind_48 : decode cX2_bind 48 = .ok (.getfield 24, 3) := by decide +kernel
theorem dX2_bind_51 : decode cX2_bind 51 = .ok (.iload_n 1, 1) := by decide +kernel
theorem dX2_bind_52 : decode cX2_bind 52 = .ok (.iload_n 2, 1) := by decide +kernel
theorem dX2_bind_53 : decode cX2_bind 53 = .ok (.iload_n 3, 1) := by decide +kernel
theorem dX2_bind_54 : decode cX2_bind 54 = .ok (.invokestatic 53, 3) := by decide +kernel
theorem dX2_bind_57 : decode cX2_bind 57 = .ok (.iastore, 1) := by decide +kernel
theorem dX2_bind_58 : decode cX2_bind 58 = .ok (.aload_n 0, 1) := by decide +kernel
theorem dX2_bind_59 : decode cX2_bind 59 = .ok (.dup, 1) := by decide +kernel
theorem dX2_bind_60 : decode cX2_bind 60 = .ok (.getfield 46, 3) := by decide +kernel
theorem dX2_bind_63 : decode cX2_bind 63 = .ok (.iconst 1, 1) := by decide +kernel
theorem dX2_bind_64 : decode cX2_bind 64 = .ok (.iadd, 1) := by decide +kernel
theorem dX2_bind_65 : decode cX2_bind 65 = .ok (.putfield 46, 3) := by decide +kernel
theorem dX2_bind_68 : decode cX2_bind 68 = .ok (.return_, 1) := by decide +kernel
abbrev rm_X2_bind : Room := { frames := 2, cells := 0, slots := 0, locals := 48 }
def P_X2_bind (q0 : Nat) (i1 : Int32) (i2 : Int32) (i3 : Int32) (h : HP) (Q : HP → Prop) : Prop := ((8 ≤ (h.1 q0 7)) → Q h) ∧ ((¬ 8 ≤ (h.1 q0 7)) → ((vp_in (h.1 q0 7) 8) ∧ ((vp_in ((si h (q0 + 1) (h.1 q0 7).toNatClampNeg i1).1 q0 7) 8) ∧ ((vp_in ((si (si h (q0 + 1) (h.1 q0 7).toNatClampNeg i1) (q0 + 2) ((si h (q0 + 1) (h.1 q0 7).toNatClampNeg i1).1 q0 7).toNatClampNeg i2).1 q0 7) 8) ∧ (P_X8_checkOf ((si (si (si h (q0 + 1) (h.1 q0 7).toNatClampNeg i1) (q0 + 2) ((si h (q0 + 1) (h.1 q0 7).toNatClampNeg i1).1 q0 7).toNatClampNeg i2) (q0 + 3) ((si (si h (q0 + 1) (h.1 q0 7).toNatClampNeg i1) (q0 + 2) ((si h (q0 + 1) (h.1 q0 7).toNatClampNeg i1).1 q0 7).toNatClampNeg i2).1 q0 7).toNatClampNeg i3).1 q0 0) i1 i2 i3 (si (si (si h (q0 + 1) (h.1 q0 7).toNatClampNeg i1) (q0 + 2) ((si h (q0 + 1) (h.1 q0 7).toNatClampNeg i1).1 q0 7).toNatClampNeg i2) (q0 + 3) ((si (si h (q0 + 1) (h.1 q0 7).toNatClampNeg i1) (q0 + 2) ((si h (q0 + 1) (h.1 q0 7).toNatClampNeg i1).1 q0 7).toNatClampNeg i2).1 q0 7).toNatClampNeg i3) (fun (v_54 : Int32) (h_54 : HP) => (vp_in ((si (si (si h (q0 + 1) (h.1 q0 7).toNatClampNeg i1) (q0 + 2) ((si h (q0 + 1) (h.1 q0 7).toNatClampNeg i1).1 q0 7).toNatClampNeg i2) (q0 + 3) ((si (si h (q0 + 1) (h.1 q0 7).toNatClampNeg i1) (q0 + 2) ((si h (q0 + 1) (h.1 q0 7).toNatClampNeg i1).1 q0 7).toNatClampNeg i2).1 q0 7).toNatClampNeg i3).1 q0 7) 8) ∧ (Q (si (si h_54 (q0 + 4) ((si (si (si h (q0 + 1) (h.1 q0 7).toNatClampNeg i1) (q0 + 2) ((si h (q0 + 1) (h.1 q0 7).toNatClampNeg i1).1 q0 7).toNatClampNeg i2) (q0 + 3) ((si (si h (q0 + 1) (h.1 q0 7).toNatClampNeg i1) (q0 + 2) ((si h (q0 + 1) (h.1 q0 7).toNatClampNeg i1).1 q0 7).toNatClampNeg i2).1 q0 7).toNatClampNeg i3).1 q0 7).toNatClampNeg v_54) q0 7 (((si h_54 (q0 + 4) ((si (si (si h (q0 + 1) (h.1 q0 7).toNatClampNeg i1) (q0 + 2) ((si h (q0 + 1) (h.1 q0 7).toNatClampNeg i1).1 q0 7).toNatClampNeg i2) (q0 + 3) ((si (si h (q0 + 1) (h.1 q0 7).toNatClampNeg i1) (q0 + 2) ((si h (q0 + 1) (h.1 q0 7).toNatClampNeg i1).1 q0 7).toNatClampNeg i2).1 q0 7).toNatClampNeg i3).1 q0 7).toNatClampNeg v_54).1 q0 7) + 1)))))))))
set_option maxHeartbeats 4000000 in
theorem t_X2_bind {q0 : Nat} {i1 : Int32} {i2 : Int32} {i3 : Int32} {h : HP} {Q : HP → Prop} (hq0 : Ty gC q0 2 0) (hp : P_X2_bind q0 i1 i2 i3 h Q) : MT yX2_bind cX2_bind 4 none rm_X2_bind [.ref q0, .int i1, .int i2, .int i3] gC SH (emb h) (pV Q) := by
  refine MT.of (by decide +kernel) (Nat.le_of_ble_eq_true rfl) (fun C hC hE => ?_)
  show SW C gC 0 [(0, .ref q0), (1, .int i1), (2, .int i2), (3, .int i3)] [] h
  unfold P_X2_bind at hp
  refine x_aload_n hC dX2_bind_0 (lm 0 rfl) ?_
  refine s_getI hC dX2_bind_1 fk_2_46 hq0 ?_
  refine x_bipush hC dX2_bind_4 bp_8 ?_
  refine x_icmp_ge (tgt := 68) hC dX2_bind_6 (by decide) (fun hc => ?_) (fun hc => ?_)
  · have hp := hp.1 hc
    exact x_vret hC hE dX2_bind_68 ⟨_, rfl, rfl, hp⟩
  · have hp := hp.2 hc
    refine x_aload_n hC dX2_bind_9 (lm 0 rfl) ?_
    refine s_getR (r := q0 + 1) hC dX2_bind_10 fk_2_11 hq0 (fr_2_8 hq0).1 ?_
    refine x_aload_n hC dX2_bind_13 (lm 0 rfl) ?_
    refine s_getI hC dX2_bind_14 fk_2_46 hq0 ?_
    refine x_iload_n hC dX2_bind_17 (lm 1 rfl) ?_
    obtain ⟨ho, hp⟩ := hp
    refine s_iast hC dX2_bind_18 ((fr_2_8 hq0).2) ho ?_
    refine x_aload_n hC dX2_bind_19 (lm 0 rfl) ?_
    refine s_getR (r := q0 + 2) hC dX2_bind_20 fk_2_15 hq0 (fr_2_9 hq0).1 ?_
    refine x_aload_n hC dX2_bind_23 (lm 0 rfl) ?_
    refine s_getI hC dX2_bind_24 fk_2_46 hq0 ?_
    refine x_iload_n hC dX2_bind_27 (lm 2 rfl) ?_
    obtain ⟨ho, hp⟩ := hp
    refine s_iast hC dX2_bind_28 ((fr_2_9 hq0).2) ho ?_
    refine x_aload_n hC dX2_bind_29 (lm 0 rfl) ?_
    refine s_getR (r := q0 + 3) hC dX2_bind_30 fk_2_18 hq0 (fr_2_10 hq0).1 ?_
    refine x_aload_n hC dX2_bind_33 (lm 0 rfl) ?_
    refine s_getI hC dX2_bind_34 fk_2_46 hq0 ?_
    refine x_iload_n hC dX2_bind_37 (lm 3 rfl) ?_
    obtain ⟨ho, hp⟩ := hp
    refine s_iast hC dX2_bind_38 ((fr_2_10 hq0).2) ho ?_
    refine x_aload_n hC dX2_bind_39 (lm 0 rfl) ?_
    refine s_getR (r := q0 + 4) hC dX2_bind_40 fk_2_21 hq0 (fr_2_11 hq0).1 ?_
    refine x_aload_n hC dX2_bind_43 (lm 0 rfl) ?_
    refine s_getI hC dX2_bind_44 fk_2_46 hq0 ?_
    refine x_aload_n hC dX2_bind_47 (lm 0 rfl) ?_
    refine s_getI hC dX2_bind_48 fk_2_24 hq0 ?_
    refine x_iload_n hC dX2_bind_51 (lm 1 rfl) ?_
    refine x_iload_n hC dX2_bind_52 (lm 2 rfl) ?_
    refine x_iload_n hC dX2_bind_53 (lm 3 rfl) ?_
    refine s_callNi (avs := [.int ((si (si (si h (q0 + 1) (h.1 q0 7).toNatClampNeg i1) (q0 + 2) ((si h (q0 + 1) (h.1 q0 7).toNatClampNeg i1).1 q0 7).toNatClampNeg i2) (q0 + 3) ((si (si h (q0 + 1) (h.1 q0 7).toNatClampNeg i1) (q0 + 2) ((si h (q0 + 1) (h.1 q0 7).toNatClampNeg i1).1 q0 7).toNatClampNeg i2).1 q0 7).toNatClampNeg i3).1 q0 0), .int i1, .int i2, .int i3]) (st := [.int ((si (si (si h (q0 + 1) (h.1 q0 7).toNatClampNeg i1) (q0 + 2) ((si h (q0 + 1) (h.1 q0 7).toNatClampNeg i1).1 q0 7).toNatClampNeg i2) (q0 + 3) ((si (si h (q0 + 1) (h.1 q0 7).toNatClampNeg i1) (q0 + 2) ((si h (q0 + 1) (h.1 q0 7).toNatClampNeg i1).1 q0 7).toNatClampNeg i2).1 q0 7).toNatClampNeg i3).1 q0 7), .ref (q0 + 4)]) hC dX2_bind_54 nl_2_53 ms_X8_checkOf rfl (t_X8_checkOf  hp) (Nat.le_of_ble_eq_true rfl) ⟨rfl, rfl⟩ ⟨Nat.le_of_ble_eq_true rfl, Nat.le_of_ble_eq_true rfl⟩ (fun v_54 h_54 hp => ?_)
    obtain ⟨ho, hp⟩ := hp
    refine s_iast hC dX2_bind_57 ((fr_2_11 hq0).2) ho ?_
    refine x_aload_n hC dX2_bind_58 (lm 0 rfl) ?_
    refine x_dup hC dX2_bind_59 rfl ?_
    refine s_getI hC dX2_bind_60 fk_2_46 hq0 ?_
    refine x_iconst hC dX2_bind_63 ic_1 ?_
    refine x_iadd hC dX2_bind_64 ?_
    refine s_putI hC dX2_bind_65 fk_2_46 rfl rfl hq0 ?_
    exact x_vret hC hE dX2_bind_68 ⟨_, rfl, rfl, hp⟩
theorem dX2_tell_0 : decode cX2_tell 0 = .ok (.iload_n 1, 1) := by decide +kernel
theorem dX2_tell_1 : decode cX2_tell 1 = .ok (.tableswitch 60 0 4 #[35, 40, 45, 50, 55], 35) := by decide +kernel
theorem dX2_tell_36 : decode cX2_tell 36 = .ok (.aload_n 0, 1) := by decide +kernel
theorem dX2_tell_37 : decode cX2_tell 37 = .ok (.getfield 28, 3) := by decide +kernel
theorem dX2_tell_40 : decode cX2_tell 40 = .ok (.ireturn, 1) := by decide +kernel
theorem dX2_tell_41 : decode cX2_tell 41 = .ok (.aload_n 0, 1) := by decide +kernel
theorem dX2_tell_42 : decode cX2_tell 42 = .ok (.getfield 24, 3) := by decide +kernel
theorem dX2_tell_45 : decode cX2_tell 45 = .ok (.ireturn, 1) := by decide +kernel
theorem dX2_tell_46 : decode cX2_tell 46 = .ok (.aload_n 0, 1) := by decide +kernel
theorem dX2_tell_47 : decode cX2_tell 47 = .ok (.getfield 46, 3) := by decide +kernel
theorem dX2_tell_50 : decode cX2_tell 50 = .ok (.ireturn, 1) := by decide +kernel
theorem dX2_tell_51 : decode cX2_tell 51 = .ok (.aload_n 0, 1) := by decide +kernel
theorem dX2_tell_52 : decode cX2_tell 52 = .ok (.getfield 40, 3) := by decide +kernel
theorem dX2_tell_55 : decode cX2_tell 55 = .ok (.ireturn, 1) := by decide +kernel
theorem dX2_tell_56 : decode cX2_tell 56 = .ok (.aload_n 0, 1) := by decide +kernel
theorem dX2_tell_57 : decode cX2_tell 57 = .ok (.getfield 43, 3) := by decide +kernel
theorem dX2_tell_60 : decode cX2_tell 60 = .ok (.ireturn, 1) := by decide +kernel
theorem dX2_tell_61 : decode cX2_tell 61 = .ok (.aload_n 0, 1) := by decide +kernel
theorem dX2_tell_62 : decode cX2_tell 62 = .ok (.getfield 34, 3) := by decide +kernel
theorem dX2_tell_65 : decode cX2_tell 65 = .ok (.ireturn, 1) := by decide +kernel
abbrev rm_X2_tell : Room := { frames := 0, cells := 0, slots := 0, locals := 0 }
def P_X2_tell (q0 : Nat) (i1 : Int32) (h : HP) (Q : Int32 → HP → Prop) : Prop := (i1.toInt = 0 → (Q (h.1 q0 1) h)) ∧ (i1.toInt = 1 → (Q (h.1 q0 0) h)) ∧ (i1.toInt = 2 → (Q (h.1 q0 7) h)) ∧ (i1.toInt = 3 → (Q (h.1 q0 5) h)) ∧ (i1.toInt = 4 → (Q (h.1 q0 6) h)) ∧ ((i1.toInt < 0 ∨ 4 < i1.toInt) → (Q (h.1 q0 3) h))
set_option maxHeartbeats 4000000 in
theorem t_X2_tell {q0 : Nat} {i1 : Int32} {h : HP} {Q : Int32 → HP → Prop} (hq0 : Ty gC q0 2 0) (hp : P_X2_tell q0 i1 h Q) : MT yX2_tell cX2_tell 2 (some .int) rm_X2_tell [.ref q0, .int i1] gC SH (emb h) (pI Q) := by
  refine MT.of (by decide +kernel) (Nat.le_of_ble_eq_true rfl) (fun C hC hE => ?_)
  show SW C gC 0 [(0, .ref q0), (1, .int i1)] [] h
  unfold P_X2_tell at hp
  refine x_iload_n hC dX2_tell_0 (lm 1 rfl) ?_
  refine x_tsw (tgt := 61) hC dX2_tell_1 [36, 41, 46, 51, 56] (by decide) (by decide) (by decide) (fun hc => ?_) (fun i t hi hx => ?_)
  · have hp := hp.2.2.2.2.2 hc
    refine x_aload_n hC dX2_tell_61 (lm 0 rfl) ?_
    refine s_getI hC dX2_tell_62 fk_2_34 hq0 ?_
    exact x_iret hC hE dX2_tell_65 ⟨_, _, rfl, rfl, hp⟩
  · match i, hi, hx with
    | 0, hi, hx =>
      cases hi
      have hp := hp.1 hx
      refine x_aload_n hC dX2_tell_36 (lm 0 rfl) ?_
      refine s_getI hC dX2_tell_37 fk_2_28 hq0 ?_
      exact x_iret hC hE dX2_tell_40 ⟨_, _, rfl, rfl, hp⟩
    | 1, hi, hx =>
      cases hi
      have hp := hp.2.1 hx
      refine x_aload_n hC dX2_tell_41 (lm 0 rfl) ?_
      refine s_getI hC dX2_tell_42 fk_2_24 hq0 ?_
      exact x_iret hC hE dX2_tell_45 ⟨_, _, rfl, rfl, hp⟩
    | 2, hi, hx =>
      cases hi
      have hp := hp.2.2.1 hx
      refine x_aload_n hC dX2_tell_46 (lm 0 rfl) ?_
      refine s_getI hC dX2_tell_47 fk_2_46 hq0 ?_
      exact x_iret hC hE dX2_tell_50 ⟨_, _, rfl, rfl, hp⟩
    | 3, hi, hx =>
      cases hi
      have hp := hp.2.2.2.1 hx
      refine x_aload_n hC dX2_tell_51 (lm 0 rfl) ?_
      refine s_getI hC dX2_tell_52 fk_2_40 hq0 ?_
      exact x_iret hC hE dX2_tell_55 ⟨_, _, rfl, rfl, hp⟩
    | 4, hi, hx =>
      cases hi
      have hp := hp.2.2.2.2.1 hx
      refine x_aload_n hC dX2_tell_56 (lm 0 rfl) ?_
      refine s_getI hC dX2_tell_57 fk_2_43 hq0 ?_
      exact x_iret hC hE dX2_tell_60 ⟨_, _, rfl, rfl, hp⟩
    | i + 5, hi, hx => exact absurd hi (by simp)
theorem dX2_tellFrame_0 : decode cX2_tellFrame 0 = .ok (.aload_n 0, 1) := by decide +kernel
theorem dX2_tellFrame_1 : decode cX2_tellFrame 1 = .ok (.iload_n 1, 1) := by decide +kernel
theorem dX2_tellFrame_2 : decode cX2_tellFrame 2 = .ok (.invokevirtual 57, 3) := by decide +kernel
theorem dX2_tellFrame_5 : decode cX2_tellFrame 5 = .ok (.ifCond .ne 5, 3) := by decide +kernel
theorem dX2_tellFrame_8 : decode cX2_tellFrame 8 = .ok (.iconst (-1), 1) := by decide +kernel
theorem dX2_tellFrame_9 : decode cX2_tellFrame 9 = .ok (.ireturn, 1) := by decide +kernel
theorem dX2_tellFrame_10 : decode cX2_tellFrame 10 = .ok (.iload_n 2, 1) := by decide +kernel
theorem dX2_tellFrame_11 : decode cX2_tellFrame 11 = .ok (.tableswitch 46 0 2 #[25, 32, 39], 25) := by decide +kernel
theorem dX2_tellFrame_36 : decode cX2_tellFrame 36 = .ok (.aload_n 0, 1) := by decide +kernel
theorem dX2_tellFrame_37 : decode cX2_tellFrame 37 = .ok (.getfield 11, 3) := by decide +kernel
theorem dX2_tellFrame_40 : decode cX2_tellFrame 40 = .ok (.iload_n 1, 1) := by decide +kernel
theorem dX2_tellFrame_41 : decode cX2_tellFrame 41 = .ok (.iaload, 1) := by decide +kernel
theorem dX2_tellFrame_42 : decode cX2_tellFrame 42 = .ok (.ireturn, 1) := by decide +kernel
theorem dX2_tellFrame_43 : decode cX2_tellFrame 43 = .ok (.aload_n 0, 1) := by decide +kernel
theorem dX2_tellFrame_44 : decode cX2_tellFrame 44 = .ok (.getfield 15, 3) := by decide +kernel
theorem dX2_tellFrame_47 : decode cX2_tellFrame 47 = .ok (.iload_n 1, 1) := by decide +kernel
theorem dX2_tellFrame_48 : decode cX2_tellFrame 48 = .ok (.iaload, 1) := by decide +kernel
theorem dX2_tellFrame_49 : decode cX2_tellFrame 49 = .ok (.ireturn, 1) := by decide +kernel
theorem dX2_tellFrame_50 : decode cX2_tellFrame 50 = .ok (.aload_n 0, 1) := by decide +kernel
theorem dX2_tellFrame_51 : decode cX2_tellFrame 51 = .ok (.getfield 18, 3) := by decide +kernel
theorem dX2_tellFrame_54 : decode cX2_tellFrame 54 = .ok (.iload_n 1, 1) := by decide +kernel
theorem dX2_tellFrame_55 : decode cX2_tellFrame 55 = .ok (.iaload, 1) := by decide +kernel
theorem dX2_tellFrame_56 : decode cX2_tellFrame 56 = .ok (.ireturn, 1) := by decide +kernel
theorem dX2_tellFrame_57 : decode cX2_tellFrame 57 = .ok (.aload_n 0, 1) := by decide +kernel
theorem dX2_tellFrame_58 : decode cX2_tellFrame 58 = .ok (.getfield 21, 3) := by decide +kernel
theorem dX2_tellFrame_61 : decode cX2_tellFrame 61 = .ok (.iload_n 1, 1) := by decide +kernel
theorem dX2_tellFrame_62 : decode cX2_tellFrame 62 = .ok (.iaload, 1) := by decide +kernel
theorem dX2_tellFrame_63 : decode cX2_tellFrame 63 = .ok (.ireturn, 1) := by decide +kernel
abbrev rm_X2_tellFrame : Room := { frames := 2, cells := 0, slots := 0, locals := 43 }
def P_X2_tellFrame (q0 : Nat) (i1 : Int32) (i2 : Int32) (h : HP) (Q : Int32 → HP → Prop) : Prop := P_X2_hasFrame q0 i1 h (fun (v_2 : Int32) (h_2 : HP) => ((¬ v_2 = 0) → ((i2.toInt = 0 → ((vp_in i1 8) ∧ (Q (h_2.1 (q0 + 1) i1.toNatClampNeg) h_2))) ∧ (i2.toInt = 1 → ((vp_in i1 8) ∧ (Q (h_2.1 (q0 + 2) i1.toNatClampNeg) h_2))) ∧ (i2.toInt = 2 → ((vp_in i1 8) ∧ (Q (h_2.1 (q0 + 3) i1.toNatClampNeg) h_2))) ∧ ((i2.toInt < 0 ∨ 2 < i2.toInt) → ((vp_in i1 8) ∧ (Q (h_2.1 (q0 + 4) i1.toNatClampNeg) h_2))))) ∧ ((v_2 = 0) → (Q (-1) h_2)))
set_option maxHeartbeats 4000000 in
theorem t_X2_tellFrame {q0 : Nat} {i1 : Int32} {i2 : Int32} {h : HP} {Q : Int32 → HP → Prop} (hq0 : Ty gC q0 2 0) (hp : P_X2_tellFrame q0 i1 i2 h Q) : MT yX2_tellFrame cX2_tellFrame 3 (some .int) rm_X2_tellFrame [.ref q0, .int i1, .int i2] gC SH (emb h) (pI Q) := by
  refine MT.of (by decide +kernel) (Nat.le_of_ble_eq_true rfl) (fun C hC hE => ?_)
  show SW C gC 0 [(0, .ref q0), (1, .int i1), (2, .int i2)] [] h
  unfold P_X2_tellFrame at hp
  refine x_aload_n hC dX2_tellFrame_0 (lm 0 rfl) ?_
  refine x_iload_n hC dX2_tellFrame_1 (lm 1 rfl) ?_
  refine s_callVi (avs := [.int i1]) (st := []) hC dX2_tellFrame_2 ml_2_57 mi_X2_hasFrame hq0 rfl (t_X2_hasFrame hq0 hp) (Nat.le_of_ble_eq_true rfl) ⟨rfl, rfl⟩ ⟨Nat.le_of_ble_eq_true rfl, Nat.le_of_ble_eq_true rfl⟩ (fun v_2 h_2 hp => ?_)
  refine x_if_ne (tgt := 10) hC dX2_tellFrame_5 (by decide) (fun hc => ?_) (fun hc => ?_)
  · have hp := hp.1 hc
    refine x_iload_n hC dX2_tellFrame_10 (lm 2 rfl) ?_
    refine x_tsw (tgt := 57) hC dX2_tellFrame_11 [36, 43, 50] (by decide) (by decide) (by decide) (fun hc => ?_) (fun i t hi hx => ?_)
    · have hp := hp.2.2.2 hc
      refine x_aload_n hC dX2_tellFrame_57 (lm 0 rfl) ?_
      refine s_getR (r := q0 + 4) hC dX2_tellFrame_58 fk_2_21 hq0 (fr_2_11 hq0).1 ?_
      refine x_iload_n hC dX2_tellFrame_61 (lm 1 rfl) ?_
      obtain ⟨ho, hp⟩ := hp
      refine s_iald hC dX2_tellFrame_62 ((fr_2_11 hq0).2) ho ?_
      exact x_iret hC hE dX2_tellFrame_63 ⟨_, _, rfl, rfl, hp⟩
    · match i, hi, hx with
      | 0, hi, hx =>
        cases hi
        have hp := hp.1 hx
        refine x_aload_n hC dX2_tellFrame_36 (lm 0 rfl) ?_
        refine s_getR (r := q0 + 1) hC dX2_tellFrame_37 fk_2_11 hq0 (fr_2_8 hq0).1 ?_
        refine x_iload_n hC dX2_tellFrame_40 (lm 1 rfl) ?_
        obtain ⟨ho, hp⟩ := hp
        refine s_iald hC dX2_tellFrame_41 ((fr_2_8 hq0).2) ho ?_
        exact x_iret hC hE dX2_tellFrame_42 ⟨_, _, rfl, rfl, hp⟩
      | 1, hi, hx =>
        cases hi
        have hp := hp.2.1 hx
        refine x_aload_n hC dX2_tellFrame_43 (lm 0 rfl) ?_
        refine s_getR (r := q0 + 2) hC dX2_tellFrame_44 fk_2_15 hq0 (fr_2_9 hq0).1 ?_
        refine x_iload_n hC dX2_tellFrame_47 (lm 1 rfl) ?_
        obtain ⟨ho, hp⟩ := hp
        refine s_iald hC dX2_tellFrame_48 ((fr_2_9 hq0).2) ho ?_
        exact x_iret hC hE dX2_tellFrame_49 ⟨_, _, rfl, rfl, hp⟩
      | 2, hi, hx =>
        cases hi
        have hp := hp.2.2.1 hx
        refine x_aload_n hC dX2_tellFrame_50 (lm 0 rfl) ?_
        refine s_getR (r := q0 + 3) hC dX2_tellFrame_51 fk_2_18 hq0 (fr_2_10 hq0).1 ?_
        refine x_iload_n hC dX2_tellFrame_54 (lm 1 rfl) ?_
        obtain ⟨ho, hp⟩ := hp
        refine s_iald hC dX2_tellFrame_55 ((fr_2_10 hq0).2) ho ?_
        exact x_iret hC hE dX2_tellFrame_56 ⟨_, _, rfl, rfl, hp⟩
      | i + 3, hi, hx => exact absurd hi (by simp)
  · have hp := hp.2 hc
    refine x_iconst hC dX2_tellFrame_8 ic_m1 ?_
    exact x_iret hC hE dX2_tellFrame_9 ⟨_, _, rfl, rfl, hp⟩
theorem dX3_vanish_0 : decode cX3_vanish 0 = .ok (.aload_n 0, 1) := by decide +kernel
theorem dX3_vanish_1 : decode cX3_vanish 1 = .ok (.iconst 0, 1) := by decide +kernel
theorem dX3_vanish_2 : decode cX3_vanish 2 = .ok (.putfield 35, 3) := by decide +kernel
theorem dX3_vanish_5 : decode cX3_vanish 5 = .ok (.aload_n 0, 1) := by decide +kernel
theorem dX3_vanish_6 : decode cX3_vanish 6 = .ok (.iconst 0, 1) := by decide +kernel
theorem dX3_vanish_7 : decode cX3_vanish 7 = .ok (.putfield 39, 3) := by decide +kernel
theorem dX3_vanish_10 : decode cX3_vanish 10 = .ok (.aload_n 0, 1) := by decide +kernel
theorem dX3_vanish_11 : decode cX3_vanish 11 = .ok (.iconst 0, 1) := by decide +kernel
theorem dX3_vanish_12 : decode cX3_vanish 12 = .ok (.putfield 42, 3) := by decide +kernel
theorem dX3_vanish_15 : decode cX3_vanish 15 = .ok (.aload_n 0, 1) := by decide +kernel
theorem dX3_vanish_16 : decode cX3_vanish 16 = .ok (.iconst 0, 1) := by decide +kernel
theorem dX3_vanish_17 : decode cX3_vanish 17 = .ok (.putfield 45, 3) := by decide +kernel
theorem dX3_vanish_20 : decode cX3_vanish 20 = .ok (.aload_n 0, 1) := by decide +kernel
theorem dX3_vanish_21 : decode cX3_vanish 21 = .ok (.iconst 0, 1) := by decide +kernel
theorem dX3_vanish_22 : decode cX3_vanish 22 = .ok (.putfield 48, 3) := by decide +kernel
theorem dX3_vanish_25 : decode cX3_vanish 25 = .ok (.aload_n 0, 1) := by decide +kernel
theorem dX3_vanish_26 : decode cX3_vanish 26 = .ok (.iconst 0, 1) := by decide +kernel
theorem dX3_vanish_27 : decode cX3_vanish 27 = .ok (.putfield 51, 3) := by decide +kernel
theorem dX3_vanish_30 : decode cX3_vanish 30 = .ok (.aload_n 0, 1) := by decide +kernel
theorem dX3_vanish_31 : decode cX3_vanish 31 = .ok (.iconst 0, 1) := by decide +kernel
theorem dX3_vanish_32 : decode cX3_vanish 32 = .ok (.putfield 55, 3) := by decide +kernel
theorem dX3_vanish_35 : decode cX3_vanish 35 = .ok (.aload_n 0, 1) := by decide +kernel
theorem dX3_vanish_36 : decode cX3_vanish 36 = .ok (.iconst 0, 1) := by decide +kernel
theorem dX3_vanish_37 : decode cX3_vanish 37 = .ok (.putfield 58, 3) := by decide +kernel
theorem dX3_vanish_40 : decode cX3_vanish 40 = .ok (.return_, 1) := by decide +kernel
abbrev rm_X3_vanish : Room := { frames := 0, cells := 0, slots := 0, locals := 0 }
def P_X3_vanish (q0 : Nat) (h : HP) (Q : HP → Prop) : Prop := Q (si (si (si (si (si (si (si (si h q0 1 0) q0 4 0) q0 5 0) q0 6 0) q0 7 0) q0 8 0) q0 9 0) q0 10 0)
set_option maxHeartbeats 4000000 in
theorem t_X3_vanish {q0 : Nat} {h : HP} {Q : HP → Prop} (hq0 : Ty gC q0 3 0) (hp : P_X3_vanish q0 h Q) : MT yX3_vanish cX3_vanish 1 none rm_X3_vanish [.ref q0] gC SH (emb h) (pV Q) := by
  refine MT.of (by decide +kernel) (Nat.le_of_ble_eq_true rfl) (fun C hC hE => ?_)
  show SW C gC 0 [(0, .ref q0)] [] h
  unfold P_X3_vanish at hp
  refine x_aload_n hC dX3_vanish_0 (lm 0 rfl) ?_
  refine x_iconst hC dX3_vanish_1 ic_0 ?_
  refine s_putI hC dX3_vanish_2 fk_3_35 rfl rfl hq0 ?_
  refine x_aload_n hC dX3_vanish_5 (lm 0 rfl) ?_
  refine x_iconst hC dX3_vanish_6 ic_0 ?_
  refine s_putI hC dX3_vanish_7 fk_3_39 rfl rfl hq0 ?_
  refine x_aload_n hC dX3_vanish_10 (lm 0 rfl) ?_
  refine x_iconst hC dX3_vanish_11 ic_0 ?_
  refine s_putI hC dX3_vanish_12 fk_3_42 rfl rfl hq0 ?_
  refine x_aload_n hC dX3_vanish_15 (lm 0 rfl) ?_
  refine x_iconst hC dX3_vanish_16 ic_0 ?_
  refine s_putI hC dX3_vanish_17 fk_3_45 rfl rfl hq0 ?_
  refine x_aload_n hC dX3_vanish_20 (lm 0 rfl) ?_
  refine x_iconst hC dX3_vanish_21 ic_0 ?_
  refine s_putI hC dX3_vanish_22 fk_3_48 rfl rfl hq0 ?_
  refine x_aload_n hC dX3_vanish_25 (lm 0 rfl) ?_
  refine x_iconst hC dX3_vanish_26 ic_0 ?_
  refine s_putZ hC dX3_vanish_27 fk_3_51 rfl rfl (Or.inl rfl) hq0 ?_
  refine x_aload_n hC dX3_vanish_30 (lm 0 rfl) ?_
  refine x_iconst hC dX3_vanish_31 ic_0 ?_
  refine s_putZ hC dX3_vanish_32 fk_3_55 rfl rfl (Or.inl rfl) hq0 ?_
  refine x_aload_n hC dX3_vanish_35 (lm 0 rfl) ?_
  refine x_iconst hC dX3_vanish_36 ic_0 ?_
  refine s_putZ hC dX3_vanish_37 fk_3_58 rfl rfl (Or.inl rfl) hq0 ?_
  exact x_vret hC hE dX3_vanish_40 ⟨_, rfl, rfl, hp⟩
theorem dX3_ask_0 : decode cX3_ask 0 = .ok (.aload_n 0, 1) := by decide +kernel
theorem dX3_ask_1 : decode cX3_ask 1 = .ok (.invokevirtual 61, 3) := by decide +kernel
theorem dX3_ask_4 : decode cX3_ask 4 = .ok (.aload_n 0, 1) := by decide +kernel
theorem dX3_ask_5 : decode cX3_ask 5 = .ok (.iconst 1, 1) := by decide +kernel
theorem dX3_ask_6 : decode cX3_ask 6 = .ok (.putfield 35, 3) := by decide +kernel
theorem dX3_ask_9 : decode cX3_ask 9 = .ok (.aload_n 0, 1) := by decide +kernel
theorem dX3_ask_10 : decode cX3_ask 10 = .ok (.iload_n 1, 1) := by decide +kernel
theorem dX3_ask_11 : decode cX3_ask 11 = .ok (.putfield 64, 3) := by decide +kernel
theorem dX3_ask_14 : decode cX3_ask 14 = .ok (.return_, 1) := by decide +kernel
abbrev rm_X3_ask : Room := { frames := 1, cells := 0, slots := 0, locals := 20 }
def P_X3_ask (q0 : Nat) (i1 : Int32) (h : HP) (Q : HP → Prop) : Prop := P_X3_vanish q0 h (fun (h_1 : HP) => Q (si (si h_1 q0 1 1) q0 3 i1))
set_option maxHeartbeats 4000000 in
theorem t_X3_ask {q0 : Nat} {i1 : Int32} {h : HP} {Q : HP → Prop} (hq0 : Ty gC q0 3 0) (hp : P_X3_ask q0 i1 h Q) : MT yX3_ask cX3_ask 2 none rm_X3_ask [.ref q0, .int i1] gC SH (emb h) (pV Q) := by
  refine MT.of (by decide +kernel) (Nat.le_of_ble_eq_true rfl) (fun C hC hE => ?_)
  show SW C gC 0 [(0, .ref q0), (1, .int i1)] [] h
  unfold P_X3_ask at hp
  refine x_aload_n hC dX3_ask_0 (lm 0 rfl) ?_
  refine s_callVv (avs := []) (st := []) hC dX3_ask_1 ml_3_61 mi_X3_vanish hq0 rfl (t_X3_vanish hq0 hp) (Nat.le_of_ble_eq_true rfl) ⟨rfl, rfl⟩ ⟨Nat.le_of_ble_eq_true rfl, Nat.le_of_ble_eq_true rfl⟩ (fun h_1 hp => ?_)
  refine x_aload_n hC dX3_ask_4 (lm 0 rfl) ?_
  refine x_iconst hC dX3_ask_5 ic_1 ?_
  refine s_putI hC dX3_ask_6 fk_3_35 rfl rfl hq0 ?_
  refine x_aload_n hC dX3_ask_9 (lm 0 rfl) ?_
  refine x_iload_n hC dX3_ask_10 (lm 1 rfl) ?_
  refine s_putI hC dX3_ask_11 fk_3_64 rfl rfl hq0 ?_
  exact x_vret hC hE dX3_ask_14 ⟨_, rfl, rfl, hp⟩
theorem dX3_yes_0 : decode cX3_yes 0 = .ok (.aload_n 0, 1) := by decide +kernel
theorem dX3_yes_1 : decode cX3_yes 1 = .ok (.getfield 35, 3) := by decide +kernel
theorem dX3_yes_4 : decode cX3_yes 4 = .ok (.iconst 1, 1) := by decide +kernel
theorem dX3_yes_5 : decode cX3_yes 5 = .ok (.if_icmp .ne 13, 3) := by decide +kernel
theorem dX3_yes_8 : decode cX3_yes 8 = .ok (.aload_n 0, 1) := by decide +kernel
theorem dX3_yes_9 : decode cX3_yes 9 = .ok (.iconst 2, 1) := by decide +kernel
theorem dX3_yes_10 : decode cX3_yes 10 = .ok (.putfield 35, 3) := by decide +kernel
theorem dX3_yes_13 : decode cX3_yes 13 = .ok (.aload_n 0, 1) := by decide +kernel
theorem dX3_yes_14 : decode cX3_yes 14 = .ok (.iload_n 1, 1) := by decide +kernel
theorem dX3_yes_15 : decode cX3_yes 15 = .ok (.putfield 67, 3) := by decide +kernel
theorem dX3_yes_18 : decode cX3_yes 18 = .ok (.return_, 1) := by decide +kernel
abbrev rm_X3_yes : Room := { frames := 0, cells := 0, slots := 0, locals := 0 }
def P_X3_yes (q0 : Nat) (i1 : Int32) (h : HP) (Q : HP → Prop) : Prop := ((¬ (h.1 q0 1) = 1) → Q h) ∧ (((h.1 q0 1) = 1) → (Q (si (si h q0 1 2) q0 2 i1)))
set_option maxHeartbeats 4000000 in
theorem t_X3_yes {q0 : Nat} {i1 : Int32} {h : HP} {Q : HP → Prop} (hq0 : Ty gC q0 3 0) (hp : P_X3_yes q0 i1 h Q) : MT yX3_yes cX3_yes 2 none rm_X3_yes [.ref q0, .int i1] gC SH (emb h) (pV Q) := by
  refine MT.of (by decide +kernel) (Nat.le_of_ble_eq_true rfl) (fun C hC hE => ?_)
  show SW C gC 0 [(0, .ref q0), (1, .int i1)] [] h
  unfold P_X3_yes at hp
  refine x_aload_n hC dX3_yes_0 (lm 0 rfl) ?_
  refine s_getI hC dX3_yes_1 fk_3_35 hq0 ?_
  refine x_iconst hC dX3_yes_4 ic_1 ?_
  refine x_icmp_ne (tgt := 18) hC dX3_yes_5 (by decide) (fun hc => ?_) (fun hc => ?_)
  · have hp := hp.1 hc
    exact x_vret hC hE dX3_yes_18 ⟨_, rfl, rfl, hp⟩
  · have hp := hp.2 hc
    refine x_aload_n hC dX3_yes_8 (lm 0 rfl) ?_
    refine x_iconst hC dX3_yes_9 ic_2 ?_
    refine s_putI hC dX3_yes_10 fk_3_35 rfl rfl hq0 ?_
    refine x_aload_n hC dX3_yes_13 (lm 0 rfl) ?_
    refine x_iload_n hC dX3_yes_14 (lm 1 rfl) ?_
    refine s_putI hC dX3_yes_15 fk_3_67 rfl rfl hq0 ?_
    exact x_vret hC hE dX3_yes_18 ⟨_, rfl, rfl, hp⟩
theorem dX3_enqueue_0 : decode cX3_enqueue 0 = .ok (.aload_n 0, 1) := by decide +kernel
theorem dX3_enqueue_1 : decode cX3_enqueue 1 = .ok (.getfield 45, 3) := by decide +kernel
theorem dX3_enqueue_4 : decode cX3_enqueue 4 = .ok (.bipush 24, 2) := by decide +kernel
theorem dX3_enqueue_6 : decode cX3_enqueue 6 = .ok (.if_icmp .lt 5, 3) := by decide +kernel
theorem dX3_enqueue_9 : decode cX3_enqueue 9 = .ok (.iconst 0, 1) := by decide +kernel
theorem dX3_enqueue_10 : decode cX3_enqueue 10 = .ok (.ireturn, 1) := by decide +kernel
theorem dX3_enqueue_11 : decode cX3_enqueue 11 = .ok (.aload_n 0, 1) := by decide +kernel
theorem dX3_enqueue_12 : decode cX3_enqueue 12 = .ok (.getfield 11, 3) := by decide +kernel
theorem dX3_enqueue_15 : decode cX3_enqueue 15 = .ok (.aload_n 0, 1) := by decide +kernel
theorem dX3_enqueue_16 : decode cX3_enqueue 16 = .ok (.getfield 45, 3) := by decide +kernel
theorem dX3_enqueue_19 : decode cX3_enqueue 19 = .ok (.iload_n 1, 1) := by decide +kernel
theorem dX3_enqueue_20 : decode cX3_enqueue 20 = .ok (.iastore, 1) := by decide +kernel
theorem dX3_enqueue_21 : decode cX3_enqueue 21 = .ok (.aload_n 0, 1) := by decide +kernel
theorem dX3_enqueue_22 : decode cX3_enqueue 22 = .ok (.getfield 15, 3) := by decide +kernel
theorem dX3_enqueue_25 : decode cX3_enqueue 25 = .ok (.aload_n 0, 1) := by decide +kernel
theorem dX3_enqueue_26 : decode cX3_enqueue 26 = .ok (.getfield 45, 3) := by decide +kernel
theorem dX3_enqueue_29 : decode cX3_enqueue 29 = .ok (.iload_n 2, 1) := by decide +kernel
theorem dX3_enqueue_30 : decode cX3_enqueue 30 = .ok (.iastore, 1) := by decide +kernel
theorem dX3_enqueue_31 : decode cX3_enqueue 31 = .ok (.aload_n 0, 1) := by decide +kernel
theorem dX3_enqueue_32 : decode cX3_enqueue 32 = .ok (.dup, 1) := by decide +kernel
theorem dX3_enqueue_33 : decode cX3_enqueue 33 = .ok (.getfield 45, 3) := by decide +kernel
theorem dX3_enqueue_36 : decode cX3_enqueue 36 = .ok (.iconst 1, 1) := by decide +kernel
theorem dX3_enqueue_37 : decode cX3_enqueue 37 = .ok (.iadd, 1) := by decide +kernel
theorem dX3_enqueue_38 : decode cX3_enqueue 38 = .ok (.putfield 45, 3) := by decide +kernel
theorem dX3_enqueue_41 : decode cX3_enqueue 41 = .ok (.iconst 1, 1) := by decide +kernel
theorem dX3_enqueue_42 : decode cX3_enqueue 42 = .ok (.ireturn, 1) := by decide +kernel
abbrev rm_X3_enqueue : Room := { frames := 0, cells := 0, slots := 0, locals := 0 }
def P_X3_enqueue (q0 : Nat) (i1 : Int32) (i2 : Int32) (h : HP) (Q : Int32 → HP → Prop) : Prop := (((h.1 q0 6) < 24) → ((vp_in (h.1 q0 6) 24) ∧ ((vp_in ((si h (q0 + 1) (h.1 q0 6).toNatClampNeg i1).1 q0 6) 24) ∧ (Q 1 (si (si (si h (q0 + 1) (h.1 q0 6).toNatClampNeg i1) (q0 + 2) ((si h (q0 + 1) (h.1 q0 6).toNatClampNeg i1).1 q0 6).toNatClampNeg i2) q0 6 (((si (si h (q0 + 1) (h.1 q0 6).toNatClampNeg i1) (q0 + 2) ((si h (q0 + 1) (h.1 q0 6).toNatClampNeg i1).1 q0 6).toNatClampNeg i2).1 q0 6) + 1)))))) ∧ ((¬ (h.1 q0 6) < 24) → Q 0 h)
set_option maxHeartbeats 4000000 in
theorem t_X3_enqueue {q0 : Nat} {i1 : Int32} {i2 : Int32} {h : HP} {Q : Int32 → HP → Prop} (hq0 : Ty gC q0 3 0) (hp : P_X3_enqueue q0 i1 i2 h Q) : MT yX3_enqueue cX3_enqueue 3 (some .boolean) rm_X3_enqueue [.ref q0, .int i1, .int i2] gC SH (emb h) (pI Q) := by
  refine MT.of (by decide +kernel) (Nat.le_of_ble_eq_true rfl) (fun C hC hE => ?_)
  show SW C gC 0 [(0, .ref q0), (1, .int i1), (2, .int i2)] [] h
  unfold P_X3_enqueue at hp
  refine x_aload_n hC dX3_enqueue_0 (lm 0 rfl) ?_
  refine s_getI hC dX3_enqueue_1 fk_3_45 hq0 ?_
  refine x_bipush hC dX3_enqueue_4 bp_24 ?_
  refine x_icmp_lt (tgt := 11) hC dX3_enqueue_6 (by decide) (fun hc => ?_) (fun hc => ?_)
  · have hp := hp.1 hc
    refine x_aload_n hC dX3_enqueue_11 (lm 0 rfl) ?_
    refine s_getR (r := q0 + 1) hC dX3_enqueue_12 fk_3_11 hq0 (fr_3_11 hq0).1 ?_
    refine x_aload_n hC dX3_enqueue_15 (lm 0 rfl) ?_
    refine s_getI hC dX3_enqueue_16 fk_3_45 hq0 ?_
    refine x_iload_n hC dX3_enqueue_19 (lm 1 rfl) ?_
    obtain ⟨ho, hp⟩ := hp
    refine s_iast hC dX3_enqueue_20 ((fr_3_11 hq0).2) ho ?_
    refine x_aload_n hC dX3_enqueue_21 (lm 0 rfl) ?_
    refine s_getR (r := q0 + 2) hC dX3_enqueue_22 fk_3_15 hq0 (fr_3_12 hq0).1 ?_
    refine x_aload_n hC dX3_enqueue_25 (lm 0 rfl) ?_
    refine s_getI hC dX3_enqueue_26 fk_3_45 hq0 ?_
    refine x_iload_n hC dX3_enqueue_29 (lm 2 rfl) ?_
    obtain ⟨ho, hp⟩ := hp
    refine s_iast hC dX3_enqueue_30 ((fr_3_12 hq0).2) ho ?_
    refine x_aload_n hC dX3_enqueue_31 (lm 0 rfl) ?_
    refine x_dup hC dX3_enqueue_32 rfl ?_
    refine s_getI hC dX3_enqueue_33 fk_3_45 hq0 ?_
    refine x_iconst hC dX3_enqueue_36 ic_1 ?_
    refine x_iadd hC dX3_enqueue_37 ?_
    refine s_putI hC dX3_enqueue_38 fk_3_45 rfl rfl hq0 ?_
    refine x_iconst hC dX3_enqueue_41 ic_1 ?_
    exact x_zret hC hE dX3_enqueue_42 (Or.inr rfl) ⟨_, _, rfl, rfl, hp⟩
  · have hp := hp.2 hc
    refine x_iconst hC dX3_enqueue_9 ic_0 ?_
    exact x_zret hC hE dX3_enqueue_10 (Or.inl rfl) ⟨_, _, rfl, rfl, hp⟩
theorem dX3_spread_0 : decode cX3_spread 0 = .ok (.aload_n 0, 1) := by decide +kernel
theorem dX3_spread_1 : decode cX3_spread 1 = .ok (.getfield 39, 3) := by decide +kernel
theorem dX3_spread_4 : decode cX3_spread 4 = .ok (.aload_n 0, 1) := by decide +kernel
theorem dX3_spread_5 : decode cX3_spread 5 = .ok (.getfield 42, 3) := by decide +kernel
theorem dX3_spread_8 : decode cX3_spread 8 = .ok (.invokestatic 70, 3) := by decide +kernel
theorem dX3_spread_11 : decode cX3_spread 11 = .ok (.ireturn, 1) := by decide +kernel
abbrev rm_X3_spread : Room := { frames := 1, cells := 0, slots := 0, locals := 21 }
def P_X3_spread (q0 : Nat) (h : HP) (Q : Int32 → HP → Prop) : Prop := P_X8_ahead (h.1 q0 4) (h.1 q0 5) h (fun (v_8 : Int32) (h_8 : HP) => Q v_8 h_8)
set_option maxHeartbeats 4000000 in
theorem t_X3_spread {q0 : Nat} {h : HP} {Q : Int32 → HP → Prop} (hq0 : Ty gC q0 3 0) (hp : P_X3_spread q0 h Q) : MT yX3_spread cX3_spread 1 (some .int) rm_X3_spread [.ref q0] gC SH (emb h) (pI Q) := by
  refine MT.of (by decide +kernel) (Nat.le_of_ble_eq_true rfl) (fun C hC hE => ?_)
  show SW C gC 0 [(0, .ref q0)] [] h
  unfold P_X3_spread at hp
  refine x_aload_n hC dX3_spread_0 (lm 0 rfl) ?_
  refine s_getI hC dX3_spread_1 fk_3_39 hq0 ?_
  refine x_aload_n hC dX3_spread_4 (lm 0 rfl) ?_
  refine s_getI hC dX3_spread_5 fk_3_42 hq0 ?_
  refine s_callNi (avs := [.int (h.1 q0 4), .int (h.1 q0 5)]) (st := []) hC dX3_spread_8 nl_3_70 ms_X8_ahead rfl (t_X8_ahead  hp) (Nat.le_of_ble_eq_true rfl) ⟨rfl, rfl⟩ ⟨Nat.le_of_ble_eq_true rfl, Nat.le_of_ble_eq_true rfl⟩ (fun v_8 h_8 hp => ?_)
  exact x_iret hC hE dX3_spread_11 ⟨_, _, rfl, rfl, hp⟩
theorem dX3_hasPlace_0 : decode cX3_hasPlace 0 = .ok (.aload_n 0, 1) := by decide +kernel
theorem dX3_hasPlace_1 : decode cX3_hasPlace 1 = .ok (.getfield 35, 3) := by decide +kernel
theorem dX3_hasPlace_4 : decode cX3_hasPlace 4 = .ok (.iconst 2, 1) := by decide +kernel
theorem dX3_hasPlace_5 : decode cX3_hasPlace 5 = .ok (.if_icmp .ne 21, 3) := by decide +kernel
theorem dX3_hasPlace_8 : decode cX3_hasPlace 8 = .ok (.iload_n 1, 1) := by decide +kernel
theorem dX3_hasPlace_9 : decode cX3_hasPlace 9 = .ok (.iconst 0, 1) := by decide +kernel
theorem dX3_hasPlace_10 : decode cX3_hasPlace 10 = .ok (.aload_n 0, 1) := by decide +kernel
theorem dX3_hasPlace_11 : decode cX3_hasPlace 11 = .ok (.invokevirtual 74, 3) := by decide +kernel
theorem dX3_hasPlace_14 : decode cX3_hasPlace 14 = .ok (.iconst 1, 1) := by decide +kernel
theorem dX3_hasPlace_15 : decode cX3_hasPlace 15 = .ok (.isub, 1) := by decide +kernel
theorem dX3_hasPlace_16 : decode cX3_hasPlace 16 = .ok (.invokestatic 78, 3) := by decide +kernel
theorem dX3_hasPlace_19 : decode cX3_hasPlace 19 = .ok (.ifCond .eq 7, 3) := by decide +kernel
theorem dX3_hasPlace_22 : decode cX3_hasPlace 22 = .ok (.iconst 1, 1) := by decide +kernel
theorem dX3_hasPlace_23 : decode cX3_hasPlace 23 = .ok (.goto 4, 3) := by decide +kernel
theorem dX3_hasPlace_26 : decode cX3_hasPlace 26 = .ok (.iconst 0, 1) := by decide +kernel
theorem dX3_hasPlace_27 : decode cX3_hasPlace 27 = .ok (.ireturn, 1) := by decide +kernel
abbrev rm_X3_hasPlace : Room := { frames := 2, cells := 0, slots := 0, locals := 41 }
def P_X3_hasPlace (q0 : Nat) (i1 : Int32) (h : HP) (Q : Int32 → HP → Prop) : Prop := ((¬ (h.1 q0 1) = 2) → Q 0 h) ∧ (((h.1 q0 1) = 2) → (P_X3_spread q0 h (fun (v_11 : Int32) (h_11 : HP) => P_X8_within i1 0 (v_11 - 1) h_11 (fun (v_16 : Int32) (h_16 : HP) => ((v_16 = 0) → Q 0 h_16) ∧ ((¬ v_16 = 0) → Q 1 h_16)))))
set_option maxHeartbeats 4000000 in
theorem t_X3_hasPlace {q0 : Nat} {i1 : Int32} {h : HP} {Q : Int32 → HP → Prop} (hq0 : Ty gC q0 3 0) (hp : P_X3_hasPlace q0 i1 h Q) : MT yX3_hasPlace cX3_hasPlace 2 (some .boolean) rm_X3_hasPlace [.ref q0, .int i1] gC SH (emb h) (pI Q) := by
  refine MT.of (by decide +kernel) (Nat.le_of_ble_eq_true rfl) (fun C hC hE => ?_)
  show SW C gC 0 [(0, .ref q0), (1, .int i1)] [] h
  unfold P_X3_hasPlace at hp
  refine x_aload_n hC dX3_hasPlace_0 (lm 0 rfl) ?_
  refine s_getI hC dX3_hasPlace_1 fk_3_35 hq0 ?_
  refine x_iconst hC dX3_hasPlace_4 ic_2 ?_
  refine x_icmp_ne (tgt := 26) hC dX3_hasPlace_5 (by decide) (fun hc => ?_) (fun hc => ?_)
  · have hp := hp.1 hc
    refine x_iconst hC dX3_hasPlace_26 ic_0 ?_
    exact x_zret hC hE dX3_hasPlace_27 (Or.inl rfl) ⟨_, _, rfl, rfl, hp⟩
  · have hp := hp.2 hc
    refine x_iload_n hC dX3_hasPlace_8 (lm 1 rfl) ?_
    refine x_iconst hC dX3_hasPlace_9 ic_0 ?_
    refine x_aload_n hC dX3_hasPlace_10 (lm 0 rfl) ?_
    refine s_callVi (avs := []) (st := [.int 0, .int i1]) hC dX3_hasPlace_11 ml_3_74 mi_X3_spread hq0 rfl (t_X3_spread hq0 hp) (Nat.le_of_ble_eq_true rfl) ⟨rfl, rfl⟩ ⟨Nat.le_of_ble_eq_true rfl, Nat.le_of_ble_eq_true rfl⟩ (fun v_11 h_11 hp => ?_)
    refine x_iconst hC dX3_hasPlace_14 ic_1 ?_
    refine x_isub hC dX3_hasPlace_15 ?_
    refine s_callNi (avs := [.int i1, .int 0, .int (v_11 - 1)]) (st := []) hC dX3_hasPlace_16 nl_3_78 ms_X8_within rfl (t_X8_within  hp) (Nat.le_of_ble_eq_true rfl) ⟨rfl, rfl⟩ ⟨Nat.le_of_ble_eq_true rfl, Nat.le_of_ble_eq_true rfl⟩ (fun v_16 h_16 hp => ?_)
    refine x_if_eq (tgt := 26) hC dX3_hasPlace_19 (by decide) (fun hc => ?_) (fun hc => ?_)
    · have hp := hp.1 hc
      refine x_iconst hC dX3_hasPlace_26 ic_0 ?_
      exact x_zret hC hE dX3_hasPlace_27 (Or.inl rfl) ⟨_, _, rfl, rfl, hp⟩
    · have hp := hp.2 hc
      refine x_iconst hC dX3_hasPlace_22 ic_1 ?_
      refine x_goto (tgt := 27) hC dX3_hasPlace_23 (by decide) ?_
      exact x_zret hC hE dX3_hasPlace_27 (Or.inr rfl) ⟨_, _, rfl, rfl, hp⟩
theorem dX3_undone_0 : decode cX3_undone 0 = .ok (.iconst 0, 1) := by decide +kernel
theorem dX3_undone_1 : decode cX3_undone 1 = .ok (.istore_n 1, 1) := by decide +kernel
theorem dX3_undone_2 : decode cX3_undone 2 = .ok (.aload_n 0, 1) := by decide +kernel
theorem dX3_undone_3 : decode cX3_undone 3 = .ok (.invokevirtual 74, 3) := by decide +kernel
theorem dX3_undone_6 : decode cX3_undone 6 = .ok (.istore_n 2, 1) := by decide +kernel
theorem dX3_undone_7 : decode cX3_undone 7 = .ok (.iconst 0, 1) := by decide +kernel
theorem dX3_undone_8 : decode cX3_undone 8 = .ok (.istore_n 3, 1) := by decide +kernel
theorem dX3_undone_9 : decode cX3_undone 9 = .ok (.iload_n 3, 1) := by decide +kernel
theorem dX3_undone_10 : decode cX3_undone 10 = .ok (.iload_n 2, 1) := by decide +kernel
theorem dX3_undone_11 : decode cX3_undone 11 = .ok (.if_icmp .ge 37, 3) := by decide +kernel
theorem dX3_undone_14 : decode cX3_undone 14 = .ok (.iload_n 1, 1) := by decide +kernel
theorem dX3_undone_15 : decode cX3_undone 15 = .ok (.aload_n 0, 1) := by decide +kernel
theorem dX3_undone_16 : decode cX3_undone 16 = .ok (.getfield 27, 3) := by decide +kernel
theorem dX3_undone_19 : decode cX3_undone 19 = .ok (.aload_n 0, 1) := by decide +kernel
theorem dX3_undone_20 : decode cX3_undone 20 = .ok (.getfield 39, 3) := by decide +kernel
theorem dX3_undone_23 : decode cX3_undone 23 = .ok (.iload_n 3, 1) := by decide +kernel
theorem dX3_undone_24 : decode cX3_undone 24 = .ok (.iadd, 1) := by decide +kernel
theorem dX3_undone_25 : decode cX3_undone 25 = .ok (.invokestatic 82, 3) := by decide +kernel
theorem dX3_undone_28 : decode cX3_undone 28 = .ok (.baload, 1) := by decide +kernel
theorem dX3_undone_29 : decode cX3_undone 29 = .ok (.ifCond .ne 7, 3) := by decide +kernel
theorem dX3_undone_32 : decode cX3_undone 32 = .ok (.iconst 1, 1) := by decide +kernel
theorem dX3_undone_33 : decode cX3_undone 33 = .ok (.goto 4, 3) := by decide +kernel
theorem dX3_undone_36 : decode cX3_undone 36 = .ok (.iconst 0, 1) := by decide +kernel
theorem dX3_undone_37 : decode cX3_undone 37 = .ok (.invokestatic 86, 3) := by decide +kernel
theorem dX3_undone_40 : decode cX3_undone 40 = .ok (.iadd, 1) := by decide +kernel
theorem dX3_undone_41 : decode cX3_undone 41 = .ok (.istore_n 1, 1) := by decide +kernel
theorem dX3_undone_42 : decode cX3_undone 42 = .ok (.iinc 3 1, 3) := by decide +kernel
theorem dX3_undone_45 : decode cX3_undone 45 = .ok (.goto (-36), 3) := by decide +kernel
theorem dX3_undone_48 : decode cX3_undone 48 = .ok (.iload_n 1, 1) := by decide +kernel
theorem dX3_undone_49 : decode cX3_undone 49 = .ok (.ireturn, 1) := by decide +kernel
abbrev rm_X3_undone : Room := { frames := 2, cells := 0, slots := 0, locals := 41 }
def P_X3_undone (q0 : Nat) (h : HP) (Q : Int32 → HP → Prop) : Prop := P_X3_spread q0 h (fun (v_3 : Int32) (h_3 : HP) => Lp3 (fun X_9 (i1_9 : Int32) (i3_9 : Int32) (h_9 : HP) => ((v_3 ≤ i3_9) → Q i1_9 h_9) ∧ ((¬ v_3 ≤ i3_9) → (P_X8_slot ((h_9.1 q0 4) + i3_9) h_9 (fun (v_25 : Int32) (h_25 : HP) => (vp_in v_25 16) ∧ (((¬ (h_25.1 (q0 + 6) v_25.toNatClampNeg) = 0) → (P_X8_flag 0 h_25 (fun (v_37 : Int32) (h_37 : HP) => X_9 (i1_9 + v_37) (i3_9 + 1) h_37))) ∧ (((h_25.1 (q0 + 6) v_25.toNatClampNeg) = 0) → (P_X8_flag 1 h_25 (fun (v_37 : Int32) (h_37 : HP) => X_9 (i1_9 + v_37) (i3_9 + 1) h_37)))))))) 0 0 h_3)
set_option maxHeartbeats 4000000 in
theorem t_X3_undone {q0 : Nat} {h : HP} {Q : Int32 → HP → Prop} (hq0 : Ty gC q0 3 0) (hp : P_X3_undone q0 h Q) : MT yX3_undone cX3_undone 4 (some .int) rm_X3_undone [.ref q0] gC SH (emb h) (pI Q) := by
  refine MT.of (by decide +kernel) (Nat.le_of_ble_eq_true rfl) (fun C hC hE => ?_)
  show SW C gC 0 [(0, .ref q0)] [] h
  unfold P_X3_undone at hp
  refine x_iconst hC dX3_undone_0 ic_0 ?_
  refine x_istore_n (lv' := [(1, .int 0), (0, .ref q0)]) hC dX3_undone_1 (by decide) rfl ?_
  refine x_aload_n hC dX3_undone_2 (lm 1 rfl) ?_
  refine s_callVi (avs := []) (st := []) hC dX3_undone_3 ml_3_74 mi_X3_spread hq0 rfl (t_X3_spread hq0 hp) (Nat.le_of_ble_eq_true rfl) ⟨rfl, rfl⟩ ⟨Nat.le_of_ble_eq_true rfl, Nat.le_of_ble_eq_true rfl⟩ (fun v_3 h_3 hp => ?_)
  refine x_istore_n (lv' := [(2, .int v_3), (1, .int 0), (0, .ref q0)]) hC dX3_undone_6 (by decide) rfl ?_
  refine x_iconst hC dX3_undone_7 ic_0 ?_
  refine x_istore_n (lv' := [(3, .int 0), (2, .int v_3), (1, .int 0), (0, .ref q0)]) hC dX3_undone_8 (by decide) rfl ?_
  refine x_subk (lv' := [(0, .ref q0), (1, .int 0), (2, .int v_3), (3, .int 0)]) [3, 2, 1, 0] rfl ?_
  refine hp (fun i1_9 i3_9 h_9 => SW C gC 9 [(0, .ref q0), (1, .int i1_9), (2, .int v_3), (3, .int i3_9)] [] h_9) (fun i1_9 i3_9 h_9 hp => ?_)
  refine x_iload_n hC dX3_undone_9 (lm 3 rfl) ?_
  refine x_iload_n hC dX3_undone_10 (lm 2 rfl) ?_
  refine x_icmp_ge (tgt := 48) hC dX3_undone_11 (by decide) (fun hc => ?_) (fun hc => ?_)
  · have hp := hp.1 hc
    refine x_iload_n hC dX3_undone_48 (lm 1 rfl) ?_
    exact x_iret hC hE dX3_undone_49 ⟨_, _, rfl, rfl, hp⟩
  · have hp := hp.2 hc
    refine x_iload_n hC dX3_undone_14 (lm 1 rfl) ?_
    refine x_aload_n hC dX3_undone_15 (lm 0 rfl) ?_
    refine s_getR (r := q0 + 6) hC dX3_undone_16 fk_3_27 hq0 (fr_3_16 hq0).1 ?_
    refine x_aload_n hC dX3_undone_19 (lm 0 rfl) ?_
    refine s_getI hC dX3_undone_20 fk_3_39 hq0 ?_
    refine x_iload_n hC dX3_undone_23 (lm 3 rfl) ?_
    refine x_iadd hC dX3_undone_24 ?_
    refine s_callNi (avs := [.int ((h_9.1 q0 4) + i3_9)]) (st := [.ref (q0 + 6), .int i1_9]) hC dX3_undone_25 nl_3_82 ms_X8_slot rfl (t_X8_slot  hp) (Nat.le_of_ble_eq_true rfl) ⟨rfl, rfl⟩ ⟨Nat.le_of_ble_eq_true rfl, Nat.le_of_ble_eq_true rfl⟩ (fun v_25 h_25 hp => ?_)
    obtain ⟨ho, hp⟩ := hp
    refine s_zald hC dX3_undone_28 ((fr_3_16 hq0).2) ho ?_
    refine x_if_ne (tgt := 36) hC dX3_undone_29 (by decide) (fun hc => ?_) (fun hc => ?_)
    · have hp := hp.1 hc
      refine x_iconst hC dX3_undone_36 ic_0 ?_
      refine s_callNi (avs := [.int 0]) (st := [.int i1_9]) hC dX3_undone_37 nl_3_86 ms_X8_flag rfl (t_X8_flag  hp) (Nat.le_of_ble_eq_true rfl) ⟨rfl, rfl⟩ ⟨Nat.le_of_ble_eq_true rfl, Nat.le_of_ble_eq_true rfl⟩ (fun v_37 h_37 hp => ?_)
      refine x_iadd hC dX3_undone_40 ?_
      refine x_istore_n (lv' := [(1, .int (i1_9 + v_37)), (0, .ref q0), (2, .int v_3), (3, .int i3_9)]) hC dX3_undone_41 (by decide) rfl ?_
      refine x_iinc (u := i3_9 + 1) (lv' := [(3, .int (i3_9 + 1)), (1, .int (i1_9 + v_37)), (0, .ref q0), (2, .int v_3)]) hC dX3_undone_42 (lm 3 rfl) (congrArg _ ic_1) (by decide) rfl ?_
      refine x_goto (tgt := 9) hC dX3_undone_45 (by decide) ?_
      exact x_subk [2, 1, 3, 0] rfl hp
    · have hp := hp.2 hc
      refine x_iconst hC dX3_undone_32 ic_1 ?_
      refine x_goto (tgt := 37) hC dX3_undone_33 (by decide) ?_
      refine s_callNi (avs := [.int 1]) (st := [.int i1_9]) hC dX3_undone_37 nl_3_86 ms_X8_flag rfl (t_X8_flag  hp) (Nat.le_of_ble_eq_true rfl) ⟨rfl, rfl⟩ ⟨Nat.le_of_ble_eq_true rfl, Nat.le_of_ble_eq_true rfl⟩ (fun v_37 h_37 hp => ?_)
      refine x_iadd hC dX3_undone_40 ?_
      refine x_istore_n (lv' := [(1, .int (i1_9 + v_37)), (0, .ref q0), (2, .int v_3), (3, .int i3_9)]) hC dX3_undone_41 (by decide) rfl ?_
      refine x_iinc (u := i3_9 + 1) (lv' := [(3, .int (i3_9 + 1)), (1, .int (i1_9 + v_37)), (0, .ref q0), (2, .int v_3)]) hC dX3_undone_42 (lm 3 rfl) (congrArg _ ic_1) (by decide) rfl ?_
      refine x_goto (tgt := 9) hC dX3_undone_45 (by decide) ?_
      exact x_subk [2, 1, 3, 0] rfl hp
theorem dX3_queuedLength_0 : decode cX3_queuedLength 0 = .ok (.iload_n 1, 1) := by decide +kernel
theorem dX3_queuedLength_1 : decode cX3_queuedLength 1 = .ok (.iconst 0, 1) := by decide +kernel
theorem dX3_queuedLength_2 : decode cX3_queuedLength 2 = .ok (.aload_n 0, 1) := by decide +kernel
theorem dX3_queuedLength_3 : decode cX3_queuedLength 3 = .ok (.getfield 45, 3) := by decide +kernel
theorem dX3_queuedLength_6 : decode cX3_queuedLength 6 = .ok (.iconst 1, 1) := by decide +kernel
theorem dX3_queuedLength_7 : decode cX3_queuedLength 7 = .ok (.isub, 1) := by decide +kernel
theorem dX3_queuedLength_8 : decode cX3_queuedLength 8 = .ok (.invokestatic 78, 3) := by decide +kernel
theorem dX3_queuedLength_11 : decode cX3_queuedLength 11 = .ok (.ifCond .eq 12, 3) := by decide +kernel
theorem dX3_queuedLength_14 : decode cX3_queuedLength 14 = .ok (.aload_n 0, 1) := by decide +kernel
theorem dX3_queuedLength_15 : decode cX3_queuedLength 15 = .ok (.getfield 15, 3) := by decide +kernel
theorem dX3_queuedLength_18 : decode cX3_queuedLength 18 = .ok (.iload_n 1, 1) := by decide +kernel
theorem dX3_queuedLength_19 : decode cX3_queuedLength 19 = .ok (.iaload, 1) := by decide +kernel
theorem dX3_queuedLength_20 : decode cX3_queuedLength 20 = .ok (.goto 4, 3) := by decide +kernel
theorem dX3_queuedLength_23 : decode cX3_queuedLength 23 = .ok (.iconst 0, 1) := by decide +kernel
theorem dX3_queuedLength_24 : decode cX3_queuedLength 24 = .ok (.ireturn, 1) := by decide +kernel
abbrev rm_X3_queuedLength : Room := { frames := 1, cells := 0, slots := 0, locals := 22 }
def P_X3_queuedLength (q0 : Nat) (i1 : Int32) (h : HP) (Q : Int32 → HP → Prop) : Prop := P_X8_within i1 0 ((h.1 q0 6) - 1) h (fun (v_8 : Int32) (h_8 : HP) => ((v_8 = 0) → Q 0 h_8) ∧ ((¬ v_8 = 0) → ((vp_in i1 24) ∧ (Q (h_8.1 (q0 + 2) i1.toNatClampNeg) h_8))))
set_option maxHeartbeats 4000000 in
theorem t_X3_queuedLength {q0 : Nat} {i1 : Int32} {h : HP} {Q : Int32 → HP → Prop} (hq0 : Ty gC q0 3 0) (hp : P_X3_queuedLength q0 i1 h Q) : MT yX3_queuedLength cX3_queuedLength 2 (some .int) rm_X3_queuedLength [.ref q0, .int i1] gC SH (emb h) (pI Q) := by
  refine MT.of (by decide +kernel) (Nat.le_of_ble_eq_true rfl) (fun C hC hE => ?_)
  show SW C gC 0 [(0, .ref q0), (1, .int i1)] [] h
  unfold P_X3_queuedLength at hp
  refine x_iload_n hC dX3_queuedLength_0 (lm 1 rfl) ?_
  refine x_iconst hC dX3_queuedLength_1 ic_0 ?_
  refine x_aload_n hC dX3_queuedLength_2 (lm 0 rfl) ?_
  refine s_getI hC dX3_queuedLength_3 fk_3_45 hq0 ?_
  refine x_iconst hC dX3_queuedLength_6 ic_1 ?_
  refine x_isub hC dX3_queuedLength_7 ?_
  refine s_callNi (avs := [.int i1, .int 0, .int ((h.1 q0 6) - 1)]) (st := []) hC dX3_queuedLength_8 nl_3_78 ms_X8_within rfl (t_X8_within  hp) (Nat.le_of_ble_eq_true rfl) ⟨rfl, rfl⟩ ⟨Nat.le_of_ble_eq_true rfl, Nat.le_of_ble_eq_true rfl⟩ (fun v_8 h_8 hp => ?_)
  refine x_if_eq (tgt := 23) hC dX3_queuedLength_11 (by decide) (fun hc => ?_) (fun hc => ?_)
  · have hp := hp.1 hc
    refine x_iconst hC dX3_queuedLength_23 ic_0 ?_
    exact x_iret hC hE dX3_queuedLength_24 ⟨_, _, rfl, rfl, hp⟩
  · have hp := hp.2 hc
    refine x_aload_n hC dX3_queuedLength_14 (lm 0 rfl) ?_
    refine s_getR (r := q0 + 2) hC dX3_queuedLength_15 fk_3_15 hq0 (fr_3_12 hq0).1 ?_
    refine x_iload_n hC dX3_queuedLength_18 (lm 1 rfl) ?_
    obtain ⟨ho, hp⟩ := hp
    refine s_iald hC dX3_queuedLength_19 ((fr_3_12 hq0).2) ho ?_
    refine x_goto (tgt := 24) hC dX3_queuedLength_20 (by decide) ?_
    exact x_iret hC hE dX3_queuedLength_24 ⟨_, _, rfl, rfl, hp⟩
theorem dX3_bundleSize_0 : decode cX3_bundleSize 0 = .ok (.iconst 0, 1) := by decide +kernel
theorem dX3_bundleSize_1 : decode cX3_bundleSize 1 = .ok (.istore_n 3, 1) := by decide +kernel
theorem dX3_bundleSize_2 : decode cX3_bundleSize 2 = .ok (.iconst 0, 1) := by decide +kernel
theorem dX3_bundleSize_3 : decode cX3_bundleSize 3 = .ok (.istore 4, 2) := by decide +kernel
theorem dX3_bundleSize_5 : decode cX3_bundleSize 5 = .ok (.aload_n 0, 1) := by decide +kernel
theorem dX3_bundleSize_6 : decode cX3_bundleSize 6 = .ok (.invokevirtual 74, 3) := by decide +kernel
theorem dX3_bundleSize_9 : decode cX3_bundleSize 9 = .ok (.istore 5, 2) := by decide +kernel
theorem dX3_bundleSize_11 : decode cX3_bundleSize 11 = .ok (.iconst 0, 1) := by decide +kernel
theorem dX3_bundleSize_12 : decode cX3_bundleSize 12 = .ok (.istore 6, 2) := by decide +kernel
theorem dX3_bundleSize_14 : decode cX3_bundleSize 14 = .ok (.iload 6, 2) := by decide +kernel
theorem dX3_bundleSize_16 : decode cX3_bundleSize 16 = .ok (.aload_n 0, 1) := by decide +kernel
theorem dX3_bundleSize_17 : decode cX3_bundleSize 17 = .ok (.getfield 67, 3) := by decide +kernel
theorem dX3_bundleSize_20 : decode cX3_bundleSize 20 = .ok (.if_icmp .ge 105, 3) := by decide +kernel
theorem dX3_bundleSize_23 : decode cX3_bundleSize 23 = .ok (.iload 6, 2) := by decide +kernel
theorem dX3_bundleSize_25 : decode cX3_bundleSize 25 = .ok (.iload 5, 2) := by decide +kernel
theorem dX3_bundleSize_27 : decode cX3_bundleSize 27 = .ok (.aload_n 0, 1) := by decide +kernel
theorem dX3_bundleSize_28 : decode cX3_bundleSize 28 = .ok (.getfield 45, 3) := by decide +kernel
theorem dX3_bundleSize_31 : decode cX3_bundleSize 31 = .ok (.iadd, 1) := by decide +kernel
theorem dX3_bundleSize_32 : decode cX3_bundleSize 32 = .ok (.if_icmp .ge 93, 3) := by decide +kernel
theorem dX3_bundleSize_35 : decode cX3_bundleSize 35 = .ok (.iload_n 3, 1) := by decide +kernel
theorem dX3_bundleSize_36 : decode cX3_bundleSize 36 = .ok (.iload_n 1, 1) := by decide +kernel
theorem dX3_bundleSize_37 : decode cX3_bundleSize 37 = .ok (.if_icmp .ge 88, 3) := by decide +kernel
theorem dX3_bundleSize_40 : decode cX3_bundleSize 40 = .ok (.iload 6, 2) := by decide +kernel
theorem dX3_bundleSize_42 : decode cX3_bundleSize 42 = .ok (.iload 5, 2) := by decide +kernel
theorem dX3_bundleSize_44 : decode cX3_bundleSize 44 = .ok (.if_icmp .ge 24, 3) := by decide +kernel
theorem dX3_bundleSize_47 : decode cX3_bundleSize 47 = .ok (.aload_n 0, 1) := by decide +kernel
theorem dX3_bundleSize_48 : decode cX3_bundleSize 48 = .ok (.getfield 27, 3) := by decide +kernel
theorem dX3_bundleSize_51 : decode cX3_bundleSize 51 = .ok (.aload_n 0, 1) := by decide +kernel
theorem dX3_bundleSize_52 : decode cX3_bundleSize 52 = .ok (.getfield 39, 3) := by decide +kernel
theorem dX3_bundleSize_55 : decode cX3_bundleSize 55 = .ok (.iload 6, 2) := by decide +kernel
theorem dX3_bundleSize_57 : decode cX3_bundleSize 57 = .ok (.iadd, 1) := by decide +kernel
theorem dX3_bundleSize_58 : decode cX3_bundleSize 58 = .ok (.invokestatic 82, 3) := by decide +kernel
theorem dX3_bundleSize_61 : decode cX3_bundleSize 61 = .ok (.baload, 1) := by decide +kernel
theorem dX3_bundleSize_62 : decode cX3_bundleSize 62 = .ok (.ifCond .eq 6, 3) := by decide +kernel
theorem dX3_bundleSize_65 : decode cX3_bundleSize 65 = .ok (.goto 54, 3) := by decide +kernel
theorem dX3_bundleSize_68 : decode cX3_bundleSize 68 = .ok (.iload 4, 2) := by decide +kernel
theorem dX3_bundleSize_70 : decode cX3_bundleSize 70 = .ok (.iload 6, 2) := by decide +kernel
theorem dX3_bundleSize_72 : decode cX3_bundleSize 72 = .ok (.iload 5, 2) := by decide +kernel
theorem dX3_bundleSize_74 : decode cX3_bundleSize 74 = .ok (.if_icmp .ge 21, 3) := by decide +kernel
theorem dX3_bundleSize_77 : decode cX3_bundleSize 77 = .ok (.aload_n 0, 1) := by decide +kernel
theorem dX3_bundleSize_78 : decode cX3_bundleSize 78 = .ok (.getfield 21, 3) := by decide +kernel
theorem dX3_bundleSize_81 : decode cX3_bundleSize 81 = .ok (.aload_n 0, 1) := by decide +kernel
theorem dX3_bundleSize_82 : decode cX3_bundleSize 82 = .ok (.getfield 39, 3) := by decide +kernel
theorem dX3_bundleSize_85 : decode cX3_bundleSize 85 = .ok (.iload 6, 2) := by decide +kernel
theorem dX3_bundleSize_87 : decode cX3_bundleSize 87 = .ok (.iadd, 1) := by decide +kernel
theorem dX3_bundleSize_88 : decode cX3_bundleSize 88 = .ok (.invokestatic 82, 3) := by decide +kernel
theorem dX3_bundleSize_91 : decode cX3_bundleSize 91 = .ok (.iaload, 1) := by decide +kernel
theorem dX3_bundleSize_92 : decode cX3_bundleSize 92 = .ok (.goto 12, 3) := by decide +kernel
theorem dX3_bundleSize_95 : decode cX3_bundleSize 95 = .ok (.aload_n 0, 1) := by decide +kernel
theorem dX3_bundleSize_96 : decode cX3_bundleSize 96 = .ok (.iload 6, 2) := by decide +kernel
theorem dX3_bundleSize_98 : decode cX3_bundleSize 98 = .ok (.iload 5, 2) := by decide +kernel
theorem dX3_bundleSize_100 : decode cX3_bundleSize 100 = .ok (.isub, 1) := by decide +kernel
theorem dX3_bundleSize_101 : decode cX3_bundleSize 101 = .ok (.invokevirtual 90, 3) := by decide +kernel
theorem dX3_bundleSize_104 : decode cX3_bundleSize 104 = .ok (.iadd, 1) := by decide +kernel
theorem dX3_bundleSize_105 : decode cX3_bundleSize 105 = .ok (.istore 4, 2) := by decide +kernel
theorem dX3_bundleSize_107 : decode cX3_bundleSize 107 = .ok (.iload 4, 2) := by decide +kernel
theorem dX3_bundleSize_109 : decode cX3_bundleSize 109 = .ok (.iload_n 2, 1) := by decide +kernel
theorem dX3_bundleSize_110 : decode cX3_bundleSize 110 = .ok (.if_icmp .le 6, 3) := by decide +kernel
theorem dX3_bundleSize_113 : decode cX3_bundleSize 113 = .ok (.goto 12, 3) := by decide +kernel
theorem dX3_bundleSize_116 : decode cX3_bundleSize 116 = .ok (.iinc 3 1, 3) := by decide +kernel
theorem dX3_bundleSize_119 : decode cX3_bundleSize 119 = .ok (.iinc 6 1, 3) := by decide +kernel
theorem dX3_bundleSize_122 : decode cX3_bundleSize 122 = .ok (.goto (-108), 3) := by decide +kernel
theorem dX3_bundleSize_125 : decode cX3_bundleSize 125 = .ok (.iload_n 3, 1) := by decide +kernel
theorem dX3_bundleSize_126 : decode cX3_bundleSize 126 = .ok (.ireturn, 1) := by decide +kernel
abbrev rm_X3_bundleSize : Room := { frames := 2, cells := 0, slots := 0, locals := 43 }
def P_X3_bundleSize_j107 (q0 : Nat) (i1 : Int32) (i2 : Int32) (i3 : Int32) (i4 : Int32) (i5 : Int32) (i6 : Int32) (h : HP) (X_14 : Int32 → Int32 → Int32 → HP → Prop) (Q : Int32 → HP → Prop) : Prop := ((i4 ≤ i2) → (X_14 (i3 + 1) i4 (i6 + 1) h)) ∧ ((¬ i4 ≤ i2) → Q i3 h)
def P_X3_bundleSize_j68 (q0 : Nat) (i1 : Int32) (i2 : Int32) (i3 : Int32) (i4 : Int32) (i5 : Int32) (i6 : Int32) (h : HP) (X_14 : Int32 → Int32 → Int32 → HP → Prop) (Q : Int32 → HP → Prop) : Prop := ((i5 ≤ i6) → (P_X3_queuedLength q0 (i6 - i5) h (fun (v_101 : Int32) (h_101 : HP) => P_X3_bundleSize_j107 q0 i1 i2 i3 (i4 + v_101) i5 i6 h_101 X_14 Q))) ∧ ((¬ i5 ≤ i6) → (P_X8_slot ((h.1 q0 4) + i6) h (fun (v_88 : Int32) (h_88 : HP) => (vp_in v_88 16) ∧ (P_X3_bundleSize_j107 q0 i1 i2 i3 (i4 + (h_88.1 (q0 + 4) v_88.toNatClampNeg)) i5 i6 h_88 X_14 Q))))
def P_X3_bundleSize (q0 : Nat) (i1 : Int32) (i2 : Int32) (h : HP) (Q : Int32 → HP → Prop) : Prop := P_X3_spread q0 h (fun (v_6 : Int32) (h_6 : HP) => Lp4 (fun X_14 (i3_14 : Int32) (i4_14 : Int32) (i6_14 : Int32) (h_14 : HP) => (((h_14.1 q0 2) ≤ i6_14) → Q i3_14 h_14) ∧ ((¬ (h_14.1 q0 2) ≤ i6_14) → ((((v_6 + (h_14.1 q0 6)) ≤ i6_14) → Q i3_14 h_14) ∧ ((¬ (v_6 + (h_14.1 q0 6)) ≤ i6_14) → (((i1 ≤ i3_14) → Q i3_14 h_14) ∧ ((¬ i1 ≤ i3_14) → (((v_6 ≤ i6_14) → P_X3_bundleSize_j68 q0 i1 i2 i3_14 i4_14 v_6 i6_14 h_14 X_14 Q) ∧ ((¬ v_6 ≤ i6_14) → (P_X8_slot ((h_14.1 q0 4) + i6_14) h_14 (fun (v_58 : Int32) (h_58 : HP) => (vp_in v_58 16) ∧ ((((h_58.1 (q0 + 6) v_58.toNatClampNeg) = 0) → P_X3_bundleSize_j68 q0 i1 i2 i3_14 i4_14 v_6 i6_14 h_58 X_14 Q) ∧ ((¬ (h_58.1 (q0 + 6) v_58.toNatClampNeg) = 0) → (X_14 i3_14 i4_14 (i6_14 + 1) h_58))))))))))))) 0 0 0 h_6)
set_option maxHeartbeats 4000000 in
theorem l_X3_bundleSize_j107 {q0 : Nat} {i1 : Int32} {i2 : Int32} {i3 : Int32} {i4 : Int32} {i5 : Int32} {i6 : Int32} {h : HP} {X_14 : Int32 → Int32 → Int32 → HP → Prop} {Q : Int32 → HP → Prop} {C : Cx} (hC : xOk C cX3_bundleSize yX3_bundleSize.cls 7 rm_X3_bundleSize (some .int)) (hE : xEnd C gC SH (pI Q)) (hq0 : Ty gC q0 3 0) (hX_14 : ∀ (x3 : Int32) (x4 : Int32) (x6 : Int32) (hx : HP), X_14 x3 x4 x6 hx → SW C gC 14 [(0, .ref q0), (1, .int i1), (2, .int i2), (3, .int x3), (4, .int x4), (5, .int i5), (6, .int x6)] [] hx) (hp : P_X3_bundleSize_j107 q0 i1 i2 i3 i4 i5 i6 h X_14 Q) : SW C gC 107 [(0, .ref q0), (1, .int i1), (2, .int i2), (3, .int i3), (4, .int i4), (5, .int i5), (6, .int i6)] [] h := by
  unfold P_X3_bundleSize_j107 at hp
  refine x_iload hC dX3_bundleSize_107 (lm 4 rfl) ?_
  refine x_iload_n hC dX3_bundleSize_109 (lm 2 rfl) ?_
  refine x_icmp_le (tgt := 116) hC dX3_bundleSize_110 (by decide) (fun hc => ?_) (fun hc => ?_)
  · have hp := hp.1 hc
    refine x_iinc (u := i3 + 1) (lv' := [(3, .int (i3 + 1)), (0, .ref q0), (1, .int i1), (2, .int i2), (4, .int i4), (5, .int i5), (6, .int i6)]) hC dX3_bundleSize_116 (lm 3 rfl) (congrArg _ ic_1) (by decide) rfl ?_
    refine x_iinc (u := i6 + 1) (lv' := [(6, .int (i6 + 1)), (3, .int (i3 + 1)), (0, .ref q0), (1, .int i1), (2, .int i2), (4, .int i4), (5, .int i5)]) hC dX3_bundleSize_119 (lm 6 rfl) (congrArg _ ic_1) (by decide) rfl ?_
    refine x_goto (tgt := 14) hC dX3_bundleSize_122 (by decide) ?_
    exact x_subk [2, 3, 4, 1, 5, 6, 0] rfl (hX_14 _ _ _ _ hp)
  · have hp := hp.2 hc
    refine x_goto (tgt := 125) hC dX3_bundleSize_113 (by decide) ?_
    refine x_iload_n hC dX3_bundleSize_125 (lm 3 rfl) ?_
    exact x_iret hC hE dX3_bundleSize_126 ⟨_, _, rfl, rfl, hp⟩
set_option maxHeartbeats 4000000 in
theorem l_X3_bundleSize_j68 {q0 : Nat} {i1 : Int32} {i2 : Int32} {i3 : Int32} {i4 : Int32} {i5 : Int32} {i6 : Int32} {h : HP} {X_14 : Int32 → Int32 → Int32 → HP → Prop} {Q : Int32 → HP → Prop} {C : Cx} (hC : xOk C cX3_bundleSize yX3_bundleSize.cls 7 rm_X3_bundleSize (some .int)) (hE : xEnd C gC SH (pI Q)) (hq0 : Ty gC q0 3 0) (hX_14 : ∀ (x3 : Int32) (x4 : Int32) (x6 : Int32) (hx : HP), X_14 x3 x4 x6 hx → SW C gC 14 [(0, .ref q0), (1, .int i1), (2, .int i2), (3, .int x3), (4, .int x4), (5, .int i5), (6, .int x6)] [] hx) (hp : P_X3_bundleSize_j68 q0 i1 i2 i3 i4 i5 i6 h X_14 Q) : SW C gC 68 [(0, .ref q0), (1, .int i1), (2, .int i2), (3, .int i3), (4, .int i4), (5, .int i5), (6, .int i6)] [] h := by
  unfold P_X3_bundleSize_j68 at hp
  refine x_iload hC dX3_bundleSize_68 (lm 4 rfl) ?_
  refine x_iload hC dX3_bundleSize_70 (lm 6 rfl) ?_
  refine x_iload hC dX3_bundleSize_72 (lm 5 rfl) ?_
  refine x_icmp_ge (tgt := 95) hC dX3_bundleSize_74 (by decide) (fun hc => ?_) (fun hc => ?_)
  · have hp := hp.1 hc
    refine x_aload_n hC dX3_bundleSize_95 (lm 0 rfl) ?_
    refine x_iload hC dX3_bundleSize_96 (lm 6 rfl) ?_
    refine x_iload hC dX3_bundleSize_98 (lm 5 rfl) ?_
    refine x_isub hC dX3_bundleSize_100 ?_
    refine s_callVi (avs := [.int (i6 - i5)]) (st := [.int i4]) hC dX3_bundleSize_101 ml_3_90 mi_X3_queuedLength hq0 rfl (t_X3_queuedLength hq0 hp) (Nat.le_of_ble_eq_true rfl) ⟨rfl, rfl⟩ ⟨Nat.le_of_ble_eq_true rfl, Nat.le_of_ble_eq_true rfl⟩ (fun v_101 h_101 hp => ?_)
    refine x_iadd hC dX3_bundleSize_104 ?_
    refine x_istore (lv' := [(4, .int (i4 + v_101)), (0, .ref q0), (1, .int i1), (2, .int i2), (3, .int i3), (5, .int i5), (6, .int i6)]) hC dX3_bundleSize_105 (by decide) rfl ?_
    exact x_subk [1, 2, 3, 4, 0, 5, 6] rfl (l_X3_bundleSize_j107 hC hE hq0 hX_14 hp)
  · have hp := hp.2 hc
    refine x_aload_n hC dX3_bundleSize_77 (lm 0 rfl) ?_
    refine s_getR (r := q0 + 4) hC dX3_bundleSize_78 fk_3_21 hq0 (fr_3_14 hq0).1 ?_
    refine x_aload_n hC dX3_bundleSize_81 (lm 0 rfl) ?_
    refine s_getI hC dX3_bundleSize_82 fk_3_39 hq0 ?_
    refine x_iload hC dX3_bundleSize_85 (lm 6 rfl) ?_
    refine x_iadd hC dX3_bundleSize_87 ?_
    refine s_callNi (avs := [.int ((h.1 q0 4) + i6)]) (st := [.ref (q0 + 4), .int i4]) hC dX3_bundleSize_88 nl_3_82 ms_X8_slot rfl (t_X8_slot  hp) (Nat.le_of_ble_eq_true rfl) ⟨rfl, rfl⟩ ⟨Nat.le_of_ble_eq_true rfl, Nat.le_of_ble_eq_true rfl⟩ (fun v_88 h_88 hp => ?_)
    obtain ⟨ho, hp⟩ := hp
    refine s_iald hC dX3_bundleSize_91 ((fr_3_14 hq0).2) ho ?_
    refine x_goto (tgt := 104) hC dX3_bundleSize_92 (by decide) ?_
    refine x_iadd hC dX3_bundleSize_104 ?_
    refine x_istore (lv' := [(4, .int (i4 + (h_88.1 (q0 + 4) v_88.toNatClampNeg))), (0, .ref q0), (1, .int i1), (2, .int i2), (3, .int i3), (5, .int i5), (6, .int i6)]) hC dX3_bundleSize_105 (by decide) rfl ?_
    exact x_subk [1, 2, 3, 4, 0, 5, 6] rfl (l_X3_bundleSize_j107 hC hE hq0 hX_14 hp)
set_option maxHeartbeats 4000000 in
theorem t_X3_bundleSize {q0 : Nat} {i1 : Int32} {i2 : Int32} {h : HP} {Q : Int32 → HP → Prop} (hq0 : Ty gC q0 3 0) (hp : P_X3_bundleSize q0 i1 i2 h Q) : MT yX3_bundleSize cX3_bundleSize 7 (some .int) rm_X3_bundleSize [.ref q0, .int i1, .int i2] gC SH (emb h) (pI Q) := by
  refine MT.of (by decide +kernel) (Nat.le_of_ble_eq_true rfl) (fun C hC hE => ?_)
  show SW C gC 0 [(0, .ref q0), (1, .int i1), (2, .int i2)] [] h
  unfold P_X3_bundleSize at hp
  refine x_iconst hC dX3_bundleSize_0 ic_0 ?_
  refine x_istore_n (lv' := [(3, .int 0), (0, .ref q0), (1, .int i1), (2, .int i2)]) hC dX3_bundleSize_1 (by decide) rfl ?_
  refine x_iconst hC dX3_bundleSize_2 ic_0 ?_
  refine x_istore (lv' := [(4, .int 0), (3, .int 0), (0, .ref q0), (1, .int i1), (2, .int i2)]) hC dX3_bundleSize_3 (by decide) rfl ?_
  refine x_aload_n hC dX3_bundleSize_5 (lm 2 rfl) ?_
  refine s_callVi (avs := []) (st := []) hC dX3_bundleSize_6 ml_3_74 mi_X3_spread hq0 rfl (t_X3_spread hq0 hp) (Nat.le_of_ble_eq_true rfl) ⟨rfl, rfl⟩ ⟨Nat.le_of_ble_eq_true rfl, Nat.le_of_ble_eq_true rfl⟩ (fun v_6 h_6 hp => ?_)
  refine x_istore (lv' := [(5, .int v_6), (4, .int 0), (3, .int 0), (0, .ref q0), (1, .int i1), (2, .int i2)]) hC dX3_bundleSize_9 (by decide) rfl ?_
  refine x_iconst hC dX3_bundleSize_11 ic_0 ?_
  refine x_istore (lv' := [(6, .int 0), (5, .int v_6), (4, .int 0), (3, .int 0), (0, .ref q0), (1, .int i1), (2, .int i2)]) hC dX3_bundleSize_12 (by decide) rfl ?_
  refine x_subk (lv' := [(0, .ref q0), (1, .int i1), (2, .int i2), (3, .int 0), (4, .int 0), (5, .int v_6), (6, .int 0)]) [4, 5, 6, 3, 2, 1, 0] rfl ?_
  refine hp (fun i3_14 i4_14 i6_14 h_14 => SW C gC 14 [(0, .ref q0), (1, .int i1), (2, .int i2), (3, .int i3_14), (4, .int i4_14), (5, .int v_6), (6, .int i6_14)] [] h_14) (fun i3_14 i4_14 i6_14 h_14 hp => ?_)
  refine x_iload hC dX3_bundleSize_14 (lm 6 rfl) ?_
  refine x_aload_n hC dX3_bundleSize_16 (lm 0 rfl) ?_
  refine s_getI hC dX3_bundleSize_17 fk_3_67 hq0 ?_
  refine x_icmp_ge (tgt := 125) hC dX3_bundleSize_20 (by decide) (fun hc => ?_) (fun hc => ?_)
  · have hp := hp.1 hc
    refine x_iload_n hC dX3_bundleSize_125 (lm 3 rfl) ?_
    exact x_iret hC hE dX3_bundleSize_126 ⟨_, _, rfl, rfl, hp⟩
  · have hp := hp.2 hc
    refine x_iload hC dX3_bundleSize_23 (lm 6 rfl) ?_
    refine x_iload hC dX3_bundleSize_25 (lm 5 rfl) ?_
    refine x_aload_n hC dX3_bundleSize_27 (lm 0 rfl) ?_
    refine s_getI hC dX3_bundleSize_28 fk_3_45 hq0 ?_
    refine x_iadd hC dX3_bundleSize_31 ?_
    refine x_icmp_ge (tgt := 125) hC dX3_bundleSize_32 (by decide) (fun hc => ?_) (fun hc => ?_)
    · have hp := hp.1 hc
      refine x_iload_n hC dX3_bundleSize_125 (lm 3 rfl) ?_
      exact x_iret hC hE dX3_bundleSize_126 ⟨_, _, rfl, rfl, hp⟩
    · have hp := hp.2 hc
      refine x_iload_n hC dX3_bundleSize_35 (lm 3 rfl) ?_
      refine x_iload_n hC dX3_bundleSize_36 (lm 1 rfl) ?_
      refine x_icmp_ge (tgt := 125) hC dX3_bundleSize_37 (by decide) (fun hc => ?_) (fun hc => ?_)
      · have hp := hp.1 hc
        refine x_iload_n hC dX3_bundleSize_125 (lm 3 rfl) ?_
        exact x_iret hC hE dX3_bundleSize_126 ⟨_, _, rfl, rfl, hp⟩
      · have hp := hp.2 hc
        refine x_iload hC dX3_bundleSize_40 (lm 6 rfl) ?_
        refine x_iload hC dX3_bundleSize_42 (lm 5 rfl) ?_
        refine x_icmp_ge (tgt := 68) hC dX3_bundleSize_44 (by decide) (fun hc => ?_) (fun hc => ?_)
        · have hp := hp.1 hc
          exact x_subk [0, 1, 2, 3, 4, 5, 6] rfl (l_X3_bundleSize_j68 hC hE hq0 (fun _ _ _ _ hp => hp) hp)
        · have hp := hp.2 hc
          refine x_aload_n hC dX3_bundleSize_47 (lm 0 rfl) ?_
          refine s_getR (r := q0 + 6) hC dX3_bundleSize_48 fk_3_27 hq0 (fr_3_16 hq0).1 ?_
          refine x_aload_n hC dX3_bundleSize_51 (lm 0 rfl) ?_
          refine s_getI hC dX3_bundleSize_52 fk_3_39 hq0 ?_
          refine x_iload hC dX3_bundleSize_55 (lm 6 rfl) ?_
          refine x_iadd hC dX3_bundleSize_57 ?_
          refine s_callNi (avs := [.int ((h_14.1 q0 4) + i6_14)]) (st := [.ref (q0 + 6)]) hC dX3_bundleSize_58 nl_3_82 ms_X8_slot rfl (t_X8_slot  hp) (Nat.le_of_ble_eq_true rfl) ⟨rfl, rfl⟩ ⟨Nat.le_of_ble_eq_true rfl, Nat.le_of_ble_eq_true rfl⟩ (fun v_58 h_58 hp => ?_)
          obtain ⟨ho, hp⟩ := hp
          refine s_zald hC dX3_bundleSize_61 ((fr_3_16 hq0).2) ho ?_
          refine x_if_eq (tgt := 68) hC dX3_bundleSize_62 (by decide) (fun hc => ?_) (fun hc => ?_)
          · have hp := hp.1 hc
            exact x_subk [0, 1, 2, 3, 4, 5, 6] rfl (l_X3_bundleSize_j68 hC hE hq0 (fun _ _ _ _ hp => hp) hp)
          · have hp := hp.2 hc
            refine x_goto (tgt := 119) hC dX3_bundleSize_65 (by decide) ?_
            refine x_iinc (u := i6_14 + 1) (lv' := [(6, .int (i6_14 + 1)), (0, .ref q0), (1, .int i1), (2, .int i2), (3, .int i3_14), (4, .int i4_14), (5, .int v_6)]) hC dX3_bundleSize_119 (lm 6 rfl) (congrArg _ ic_1) (by decide) rfl ?_
            refine x_goto (tgt := 14) hC dX3_bundleSize_122 (by decide) ?_
            exact x_subk [1, 2, 3, 4, 5, 6, 0] rfl hp
theorem dX3_giveNext_0 : decode cX3_giveNext 0 = .ok (.aload_n 0, 1) := by decide +kernel
theorem dX3_giveNext_1 : decode cX3_giveNext 1 = .ok (.getfield 42, 3) := by decide +kernel
theorem dX3_giveNext_4 : decode cX3_giveNext 4 = .ok (.invokestatic 82, 3) := by decide +kernel
theorem dX3_giveNext_7 : decode cX3_giveNext 7 = .ok (.istore_n 1, 1) := by decide +kernel
theorem dX3_giveNext_8 : decode cX3_giveNext 8 = .ok (.aload_n 0, 1) := by decide +kernel
theorem dX3_giveNext_9 : decode cX3_giveNext 9 = .ok (.getfield 18, 3) := by decide +kernel
theorem dX3_giveNext_12 : decode cX3_giveNext 12 = .ok (.iload_n 1, 1) := by decide +kernel
theorem dX3_giveNext_13 : decode cX3_giveNext 13 = .ok (.aload_n 0, 1) := by decide +kernel
theorem dX3_giveNext_14 : decode cX3_giveNext 14 = .ok (.getfield 11, 3) := by decide +kernel
theorem dX3_giveNext_17 : decode cX3_giveNext 17 = .ok (.iconst 0, 1) := by decide +kernel
theorem dX3_giveNext_18 : decode cX3_giveNext 18 = .ok (.iaload, 1) := by decide +kernel
theorem dX3_giveNext_19 : decode cX3_giveNext 19 = .ok (.iastore, 1) := by decide +kernel
theorem dX3_giveNext_20 : decode cX3_giveNext 20 = .ok (.aload_n 0, 1) := by decide +kernel
theorem dX3_giveNext_21 : decode cX3_giveNext 21 = .ok (.getfield 21, 3) := by decide +kernel
theorem dX3_giveNext_24 : decode cX3_giveNext 24 = .ok (.iload_n 1, 1) := by decide +kernel
theorem dX3_giveNext_25 : decode cX3_giveNext 25 = .ok (.aload_n 0, 1) := by decide +kernel
theorem dX3_giveNext_26 : decode cX3_giveNext 26 = .ok (.getfield 15, 3) := by decide +kernel
theorem dX3_giveNext_29 : decode cX3_giveNext 29 = .ok (.iconst 0, 1) := by decide +kernel
theorem dX3_giveNext_30 : decode cX3_giveNext 30 = .ok (.iaload, 1) := by decide +kernel
theorem dX3_giveNext_31 : decode cX3_giveNext 31 = .ok (.iastore, 1) := by decide +kernel
theorem dX3_giveNext_32 : decode cX3_giveNext 32 = .ok (.aload_n 0, 1) := by decide +kernel
theorem dX3_giveNext_33 : decode cX3_giveNext 33 = .ok (.getfield 24, 3) := by decide +kernel
theorem dX3_giveNext_36 : decode cX3_giveNext 36 = .ok (.iload_n 1, 1) := by decide +kernel
theorem dX3_giveNext_37 : decode cX3_giveNext 37 = .ok (.iconst 0, 1) := by decide +kernel
theorem dX3_giveNext_38 : decode cX3_giveNext 38 = .ok (.iastore, 1) := by decide +kernel
theorem dX3_giveNext_39 : decode cX3_giveNext 39 = .ok (.aload_n 0, 1) := by decide +kernel
theorem dX3_giveNext_40 : decode cX3_giveNext 40 = .ok (.getfield 27, 3) := by decide +kernel
theorem dX3_giveNext_43 : decode cX3_giveNext 43 = .ok (.iload_n 1, 1) := by decide +kernel
theorem dX3_giveNext_44 : decode cX3_giveNext 44 = .ok (.iconst 0, 1) := by decide +kernel
theorem dX3_giveNext_45 : decode cX3_giveNext 45 = .ok (.bastore, 1) := by decide +kernel
theorem dX3_giveNext_46 : decode cX3_giveNext 46 = .ok (.aload_n 0, 1) := by decide +kernel
theorem dX3_giveNext_47 : decode cX3_giveNext 47 = .ok (.aload_n 0, 1) := by decide +kernel
theorem dX3_giveNext_48 : decode cX3_giveNext 48 = .ok (.getfield 42, 3) := by decide +kernel
theorem dX3_giveNext_51 : decode cX3_giveNext 51 = .ok (.iconst 1, 1) := by decide +kernel
theorem dX3_giveNext_52 : decode cX3_giveNext 52 = .ok (.iadd, 1) := by decide +kernel
theorem dX3_giveNext_53 : decode cX3_giveNext 53 = .ok (.invokestatic 101, 3) := by decide +kernel
theorem dX3_giveNext_56 : decode cX3_giveNext 56 = .ok (.putfield 42, 3) := by decide +kernel
theorem dX3_giveNext_59 : decode cX3_giveNext 59 = .ok (.iconst 1, 1) := by decide +kernel
theorem dX3_giveNext_60 : decode cX3_giveNext 60 = .ok (.istore_n 2, 1) := by decide +kernel
theorem dX3_giveNext_61 : decode cX3_giveNext 61 = .ok (.iload_n 2, 1) := by decide +kernel
theorem dX3_giveNext_62 : decode cX3_giveNext 62 = .ok (.aload_n 0, 1) := by decide +kernel
theorem dX3_giveNext_63 : decode cX3_giveNext 63 = .ok (.getfield 45, 3) := by decide +kernel
theorem dX3_giveNext_66 : decode cX3_giveNext 66 = .ok (.if_icmp .ge 37, 3) := by decide +kernel
theorem dX3_giveNext_69 : decode cX3_giveNext 69 = .ok (.aload_n 0, 1) := by decide +kernel
theorem dX3_giveNext_70 : decode cX3_giveNext 70 = .ok (.getfield 11, 3) := by decide +kernel
theorem dX3_giveNext_73 : decode cX3_giveNext 73 = .ok (.iload_n 2, 1) := by decide +kernel
theorem dX3_giveNext_74 : decode cX3_giveNext 74 = .ok (.iconst 1, 1) := by decide +kernel
theorem dX3_giveNext_75 : decode cX3_giveNext 75 = .ok (.isub, 1) := by decide +kernel
theorem dX3_giveNext_76 : decode cX3_giveNext 76 = .ok (.aload_n 0, 1) := by decide +kernel
theorem dX3_giveNext_77 : decode cX3_giveNext 77 = .ok (.getfield 11, 3) := by decide +kernel
theorem dX3_giveNext_80 : decode cX3_giveNext 80 = .ok (.iload_n 2, 1) := by decide +kernel
theorem dX3_giveNext_81 : decode cX3_giveNext 81 = .ok (.iaload, 1) := by decide +kernel
theorem dX3_giveNext_82 : decode cX3_giveNext 82 = .ok (.iastore, 1) := by decide +kernel
theorem dX3_giveNext_83 : decode cX3_giveNext 83 = .ok (.aload_n 0, 1) := by decide +kernel
theorem dX3_giveNext_84 : decode cX3_giveNext 84 = .ok (.getfield 15, 3) := by decide +kernel
theorem dX3_giveNext_87 : decode cX3_giveNext 87 = .ok (.iload_n 2, 1) := by decide +kernel
theorem dX3_giveNext_88 : decode cX3_giveNext 88 = .ok (.iconst 1, 1) := by decide +kernel
theorem dX3_giveNext_89 : decode cX3_giveNext 89 = .ok (.isub, 1) := by decide +kernel
theorem dX3_giveNext_90 : decode cX3_giveNext 90 = .ok (.aload_n 0, 1) := by decide +kernel
theorem dX3_giveNext_91 : decode cX3_giveNext 91 = .ok (.getfield 15, 3) := by decide +kernel
theorem dX3_giveNext_94 : decode cX3_giveNext 94 = .ok (.iload_n 2, 1) := by decide +kernel
theorem dX3_giveNext_95 : decode cX3_giveNext 95 = .ok (.iaload, 1) := by decide +kernel
theorem dX3_giveNext_96 : decode cX3_giveNext 96 = .ok (.iastore, 1) := by decide +kernel
theorem dX3_giveNext_97 : decode cX3_giveNext 97 = .ok (.iinc 2 1, 3) := by decide +kernel
theorem dX3_giveNext_100 : decode cX3_giveNext 100 = .ok (.goto (-39), 3) := by decide +kernel
theorem dX3_giveNext_103 : decode cX3_giveNext 103 = .ok (.aload_n 0, 1) := by decide +kernel
theorem dX3_giveNext_104 : decode cX3_giveNext 104 = .ok (.dup, 1) := by decide +kernel
theorem dX3_giveNext_105 : decode cX3_giveNext 105 = .ok (.getfield 45, 3) := by decide +kernel
theorem dX3_giveNext_108 : decode cX3_giveNext 108 = .ok (.iconst 1, 1) := by decide +kernel
theorem dX3_giveNext_109 : decode cX3_giveNext 109 = .ok (.isub, 1) := by decide +kernel
theorem dX3_giveNext_110 : decode cX3_giveNext 110 = .ok (.putfield 45, 3) := by decide +kernel
theorem dX3_giveNext_113 : decode cX3_giveNext 113 = .ok (.return_, 1) := by decide +kernel
abbrev rm_X3_giveNext : Room := { frames := 1, cells := 0, slots := 0, locals := 20 }
def P_X3_giveNext (q0 : Nat) (h : HP) (Q : HP → Prop) : Prop := P_X8_slot (h.1 q0 5) h (fun (v_4 : Int32) (h_4 : HP) => (vp_in v_4 16) ∧ ((vp_in v_4 16) ∧ ((vp_in v_4 16) ∧ ((vp_in v_4 16) ∧ (P_X8_round (((si (si (si (si h_4 (q0 + 3) v_4.toNatClampNeg (h_4.1 (q0 + 1) 0)) (q0 + 4) v_4.toNatClampNeg ((si h_4 (q0 + 3) v_4.toNatClampNeg (h_4.1 (q0 + 1) 0)).1 (q0 + 2) 0)) (q0 + 5) v_4.toNatClampNeg 0) (q0 + 6) v_4.toNatClampNeg 0).1 q0 5) + 1) (si (si (si (si h_4 (q0 + 3) v_4.toNatClampNeg (h_4.1 (q0 + 1) 0)) (q0 + 4) v_4.toNatClampNeg ((si h_4 (q0 + 3) v_4.toNatClampNeg (h_4.1 (q0 + 1) 0)).1 (q0 + 2) 0)) (q0 + 5) v_4.toNatClampNeg 0) (q0 + 6) v_4.toNatClampNeg 0) (fun (v_53 : Int32) (h_53 : HP) => Lp2 (fun X_61 (i2_61 : Int32) (h_61 : HP) => (((h_61.1 q0 6) ≤ i2_61) → (Q (si h_61 q0 6 ((h_61.1 q0 6) - 1)))) ∧ ((¬ (h_61.1 q0 6) ≤ i2_61) → ((vp_in i2_61 24) ∧ ((vp_in (i2_61 - 1) 24) ∧ ((vp_in i2_61 24) ∧ ((vp_in (i2_61 - 1) 24) ∧ (X_61 (i2_61 + 1) (si (si h_61 (q0 + 1) (i2_61 - 1).toNatClampNeg (h_61.1 (q0 + 1) i2_61.toNatClampNeg)) (q0 + 2) (i2_61 - 1).toNatClampNeg ((si h_61 (q0 + 1) (i2_61 - 1).toNatClampNeg (h_61.1 (q0 + 1) i2_61.toNatClampNeg)).1 (q0 + 2) i2_61.toNatClampNeg))))))))) 1 (si h_53 q0 5 v_53)))))))
set_option maxHeartbeats 4000000 in
theorem t_X3_giveNext {q0 : Nat} {h : HP} {Q : HP → Prop} (hq0 : Ty gC q0 3 0) (hp : P_X3_giveNext q0 h Q) : MT yX3_giveNext cX3_giveNext 3 none rm_X3_giveNext [.ref q0] gC SH (emb h) (pV Q) := by
  refine MT.of (by decide +kernel) (Nat.le_of_ble_eq_true rfl) (fun C hC hE => ?_)
  show SW C gC 0 [(0, .ref q0)] [] h
  unfold P_X3_giveNext at hp
  refine x_aload_n hC dX3_giveNext_0 (lm 0 rfl) ?_
  refine s_getI hC dX3_giveNext_1 fk_3_42 hq0 ?_
  refine s_callNi (avs := [.int (h.1 q0 5)]) (st := []) hC dX3_giveNext_4 nl_3_82 ms_X8_slot rfl (t_X8_slot  hp) (Nat.le_of_ble_eq_true rfl) ⟨rfl, rfl⟩ ⟨Nat.le_of_ble_eq_true rfl, Nat.le_of_ble_eq_true rfl⟩ (fun v_4 h_4 hp => ?_)
  refine x_istore_n (lv' := [(1, .int v_4), (0, .ref q0)]) hC dX3_giveNext_7 (by decide) rfl ?_
  refine x_aload_n hC dX3_giveNext_8 (lm 1 rfl) ?_
  refine s_getR (r := q0 + 3) hC dX3_giveNext_9 fk_3_18 hq0 (fr_3_13 hq0).1 ?_
  refine x_iload_n hC dX3_giveNext_12 (lm 0 rfl) ?_
  refine x_aload_n hC dX3_giveNext_13 (lm 1 rfl) ?_
  refine s_getR (r := q0 + 1) hC dX3_giveNext_14 fk_3_11 hq0 (fr_3_11 hq0).1 ?_
  refine x_iconst hC dX3_giveNext_17 ic_0 ?_
  refine s_iald hC dX3_giveNext_18 ((fr_3_11 hq0).2) (vi (by decide)) ?_
  obtain ⟨ho, hp⟩ := hp
  refine s_iast hC dX3_giveNext_19 ((fr_3_13 hq0).2) ho ?_
  refine x_aload_n hC dX3_giveNext_20 (lm 1 rfl) ?_
  refine s_getR (r := q0 + 4) hC dX3_giveNext_21 fk_3_21 hq0 (fr_3_14 hq0).1 ?_
  refine x_iload_n hC dX3_giveNext_24 (lm 0 rfl) ?_
  refine x_aload_n hC dX3_giveNext_25 (lm 1 rfl) ?_
  refine s_getR (r := q0 + 2) hC dX3_giveNext_26 fk_3_15 hq0 (fr_3_12 hq0).1 ?_
  refine x_iconst hC dX3_giveNext_29 ic_0 ?_
  refine s_iald hC dX3_giveNext_30 ((fr_3_12 hq0).2) (vi (by decide)) ?_
  obtain ⟨ho, hp⟩ := hp
  refine s_iast hC dX3_giveNext_31 ((fr_3_14 hq0).2) ho ?_
  refine x_aload_n hC dX3_giveNext_32 (lm 1 rfl) ?_
  refine s_getR (r := q0 + 5) hC dX3_giveNext_33 fk_3_24 hq0 (fr_3_15 hq0).1 ?_
  refine x_iload_n hC dX3_giveNext_36 (lm 0 rfl) ?_
  refine x_iconst hC dX3_giveNext_37 ic_0 ?_
  obtain ⟨ho, hp⟩ := hp
  refine s_iast hC dX3_giveNext_38 ((fr_3_15 hq0).2) ho ?_
  refine x_aload_n hC dX3_giveNext_39 (lm 1 rfl) ?_
  refine s_getR (r := q0 + 6) hC dX3_giveNext_40 fk_3_27 hq0 (fr_3_16 hq0).1 ?_
  refine x_iload_n hC dX3_giveNext_43 (lm 0 rfl) ?_
  refine x_iconst hC dX3_giveNext_44 ic_0 ?_
  obtain ⟨ho, hp⟩ := hp
  refine s_zast (y := 0) hC dX3_giveNext_45 ((fr_3_16 hq0).2) ho (by decide) ?_
  refine x_aload_n hC dX3_giveNext_46 (lm 1 rfl) ?_
  refine x_aload_n hC dX3_giveNext_47 (lm 1 rfl) ?_
  refine s_getI hC dX3_giveNext_48 fk_3_42 hq0 ?_
  refine x_iconst hC dX3_giveNext_51 ic_1 ?_
  refine x_iadd hC dX3_giveNext_52 ?_
  refine s_callNi (avs := [.int (((si (si (si (si h_4 (q0 + 3) v_4.toNatClampNeg (h_4.1 (q0 + 1) 0)) (q0 + 4) v_4.toNatClampNeg ((si h_4 (q0 + 3) v_4.toNatClampNeg (h_4.1 (q0 + 1) 0)).1 (q0 + 2) 0)) (q0 + 5) v_4.toNatClampNeg 0) (q0 + 6) v_4.toNatClampNeg 0).1 q0 5) + 1)]) (st := [.ref q0]) hC dX3_giveNext_53 nl_3_101 ms_X8_round rfl (t_X8_round  hp) (Nat.le_of_ble_eq_true rfl) ⟨rfl, rfl⟩ ⟨Nat.le_of_ble_eq_true rfl, Nat.le_of_ble_eq_true rfl⟩ (fun v_53 h_53 hp => ?_)
  refine s_putI hC dX3_giveNext_56 fk_3_42 rfl rfl hq0 ?_
  refine x_iconst hC dX3_giveNext_59 ic_1 ?_
  refine x_istore_n (lv' := [(2, .int 1), (1, .int v_4), (0, .ref q0)]) hC dX3_giveNext_60 (by decide) rfl ?_
  refine x_subk (lv' := [(0, .ref q0), (2, .int 1)]) [2, 0] rfl ?_
  refine hp (fun i2_61 h_61 => SW C gC 61 [(0, .ref q0), (2, .int i2_61)] [] h_61) (fun i2_61 h_61 hp => ?_)
  refine x_iload_n hC dX3_giveNext_61 (lm 1 rfl) ?_
  refine x_aload_n hC dX3_giveNext_62 (lm 0 rfl) ?_
  refine s_getI hC dX3_giveNext_63 fk_3_45 hq0 ?_
  refine x_icmp_ge (tgt := 103) hC dX3_giveNext_66 (by decide) (fun hc => ?_) (fun hc => ?_)
  · have hp := hp.1 hc
    refine x_aload_n hC dX3_giveNext_103 (lm 0 rfl) ?_
    refine x_dup hC dX3_giveNext_104 rfl ?_
    refine s_getI hC dX3_giveNext_105 fk_3_45 hq0 ?_
    refine x_iconst hC dX3_giveNext_108 ic_1 ?_
    refine x_isub hC dX3_giveNext_109 ?_
    refine s_putI hC dX3_giveNext_110 fk_3_45 rfl rfl hq0 ?_
    exact x_vret hC hE dX3_giveNext_113 ⟨_, rfl, rfl, hp⟩
  · have hp := hp.2 hc
    refine x_aload_n hC dX3_giveNext_69 (lm 0 rfl) ?_
    refine s_getR (r := q0 + 1) hC dX3_giveNext_70 fk_3_11 hq0 (fr_3_11 hq0).1 ?_
    refine x_iload_n hC dX3_giveNext_73 (lm 1 rfl) ?_
    refine x_iconst hC dX3_giveNext_74 ic_1 ?_
    refine x_isub hC dX3_giveNext_75 ?_
    refine x_aload_n hC dX3_giveNext_76 (lm 0 rfl) ?_
    refine s_getR (r := q0 + 1) hC dX3_giveNext_77 fk_3_11 hq0 (fr_3_11 hq0).1 ?_
    refine x_iload_n hC dX3_giveNext_80 (lm 1 rfl) ?_
    obtain ⟨ho, hp⟩ := hp
    refine s_iald hC dX3_giveNext_81 ((fr_3_11 hq0).2) ho ?_
    obtain ⟨ho, hp⟩ := hp
    refine s_iast hC dX3_giveNext_82 ((fr_3_11 hq0).2) ho ?_
    refine x_aload_n hC dX3_giveNext_83 (lm 0 rfl) ?_
    refine s_getR (r := q0 + 2) hC dX3_giveNext_84 fk_3_15 hq0 (fr_3_12 hq0).1 ?_
    refine x_iload_n hC dX3_giveNext_87 (lm 1 rfl) ?_
    refine x_iconst hC dX3_giveNext_88 ic_1 ?_
    refine x_isub hC dX3_giveNext_89 ?_
    refine x_aload_n hC dX3_giveNext_90 (lm 0 rfl) ?_
    refine s_getR (r := q0 + 2) hC dX3_giveNext_91 fk_3_15 hq0 (fr_3_12 hq0).1 ?_
    refine x_iload_n hC dX3_giveNext_94 (lm 1 rfl) ?_
    obtain ⟨ho, hp⟩ := hp
    refine s_iald hC dX3_giveNext_95 ((fr_3_12 hq0).2) ho ?_
    obtain ⟨ho, hp⟩ := hp
    refine s_iast hC dX3_giveNext_96 ((fr_3_12 hq0).2) ho ?_
    refine x_iinc (u := i2_61 + 1) (lv' := [(2, .int (i2_61 + 1)), (0, .ref q0)]) hC dX3_giveNext_97 (lm 1 rfl) (congrArg _ ic_1) (by decide) rfl ?_
    refine x_goto (tgt := 61) hC dX3_giveNext_100 (by decide) ?_
    exact x_subk [1, 0] rfl hp
