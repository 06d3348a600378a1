theorem dX9_isLetter_0 : decode cX9_isLetter 0 = .ok (.aload_n 0, 1) := by decide +kernel
theorem dX9_isLetter_1 : decode cX9_isLetter 1 = .ok (.invokevirtual 160, 3) := by decide +kernel
theorem dX9_isLetter_4 : decode cX9_isLetter 4 = .ok (.ifCond .eq 21, 3) := by decide +kernel
theorem dX9_isLetter_7 : decode cX9_isLetter 7 = .ok (.iload_n 1, 1) := by decide +kernel
theorem dX9_isLetter_8 : decode cX9_isLetter 8 = .ok (.iconst 0, 1) := by decide +kernel
theorem dX9_isLetter_9 : decode cX9_isLetter 9 = .ok (.aload_n 0, 1) := by decide +kernel
theorem dX9_isLetter_10 : decode cX9_isLetter 10 = .ok (.getfield 154, 3) := by decide +kernel
theorem dX9_isLetter_13 : decode cX9_isLetter 13 = .ok (.iconst 1, 1) := by decide +kernel
theorem dX9_isLetter_14 : decode cX9_isLetter 14 = .ok (.isub, 1) := by decide +kernel
theorem dX9_isLetter_15 : decode cX9_isLetter 15 = .ok (.invokestatic 123, 3) := by decide +kernel
theorem dX9_isLetter_18 : decode cX9_isLetter 18 = .ok (.ifCond .eq 7, 3) := by decide +kernel
theorem dX9_isLetter_21 : decode cX9_isLetter 21 = .ok (.iconst 1, 1) := by decide +kernel
theorem dX9_isLetter_22 : decode cX9_isLetter 22 = .ok (.goto 4, 3) := by decide +kernel
theorem dX9_isLetter_25 : decode cX9_isLetter 25 = .ok (.iconst 0, 1) := by decide +kernel
theorem dX9_isLetter_26 : decode cX9_isLetter 26 = .ok (.ireturn, 1) := by decide +kernel
abbrev rm_X9_isLetter : Room := { frames := 1, cells := 0, slots := 0, locals := 22 }
def P_X9_isLetter (i1 : Int32) (h : HP) (Q : Int32 → HP → Prop) : Prop := P_X9_isAir h (fun (v_1 : Int32) (h_1 : HP) => ((v_1 = 0) → Q 0 h_1) ∧ ((¬ v_1 = 0) → (P_X9_within i1 0 ((h_1.1 78 39) - 1) h_1 (fun (v_15 : Int32) (h_15 : HP) => ((v_15 = 0) → Q 0 h_15) ∧ ((¬ v_15 = 0) → Q 1 h_15)))))
set_option maxHeartbeats 4000000 in
theorem t_X9_isLetter {i1 : Int32} {h : HP} {Q : Int32 → HP → Prop}  (hp : P_X9_isLetter i1 h Q) : MT yX9_isLetter cX9_isLetter 2 (some .boolean) rm_X9_isLetter [.ref 78, .int i1] gM SH (emb h) (pI Q) := by
  refine MT.of (by decide +kernel) (Nat.le_of_ble_eq_true rfl) (fun C hC hE => ?_)
  show SW C gM 0 [(0, .ref 78), (1, .int i1)] [] h
  unfold P_X9_isLetter at hp
  refine x_aload_n hC dX9_isLetter_0 (lm 0 rfl) ?_
  refine s_callVi (avs := []) (st := []) hC dX9_isLetter_1 ml_9_160 mi_X9_isAir ty_78 rfl (t_X9_isAir  hp) (Nat.le_of_ble_eq_true rfl) ⟨rfl, rfl⟩ ⟨Nat.le_of_ble_eq_true rfl, Nat.le_of_ble_eq_true rfl⟩ (fun v_1 h_1 hp => ?_)
  refine x_if_eq (tgt := 25) hC dX9_isLetter_4 (by decide) (fun hc => ?_) (fun hc => ?_)
  · have hp := hp.1 hc
    refine x_iconst hC dX9_isLetter_25 ic_0 ?_
    exact x_zret hC hE dX9_isLetter_26 (Or.inl rfl) ⟨_, _, rfl, rfl, hp⟩
  · have hp := hp.2 hc
    refine x_iload_n hC dX9_isLetter_7 (lm 1 rfl) ?_
    refine x_iconst hC dX9_isLetter_8 ic_0 ?_
    refine x_aload_n hC dX9_isLetter_9 (lm 0 rfl) ?_
    refine s_getI hC dX9_isLetter_10 fk_9_154 ty_78 ?_
    refine x_iconst hC dX9_isLetter_13 ic_1 ?_
    refine x_isub hC dX9_isLetter_14 ?_
    refine s_callSi (avs := [.int i1, .int 0, .int ((h_1.1 78 39) - 1)]) (st := []) hC dX9_isLetter_15 ml_9_123 ms_X9_within rfl (t_X9_within  hp) (Nat.le_of_ble_eq_true rfl) ⟨rfl, rfl⟩ ⟨Nat.le_of_ble_eq_true rfl, Nat.le_of_ble_eq_true rfl⟩ (fun v_15 h_15 hp => ?_)
    refine x_if_eq (tgt := 25) hC dX9_isLetter_18 (by decide) (fun hc => ?_) (fun hc => ?_)
    · have hp := hp.1 hc
      refine x_iconst hC dX9_isLetter_25 ic_0 ?_
      exact x_zret hC hE dX9_isLetter_26 (Or.inl rfl) ⟨_, _, rfl, rfl, hp⟩
    · have hp := hp.2 hc
      refine x_iconst hC dX9_isLetter_21 ic_1 ?_
      refine x_goto (tgt := 26) hC dX9_isLetter_22 (by decide) ?_
      exact x_zret hC hE dX9_isLetter_26 (Or.inr rfl) ⟨_, _, rfl, rfl, hp⟩
theorem dX9_deliver_0 : decode cX9_deliver 0 = .ok (.aload_n 0, 1) := by decide +kernel
theorem dX9_deliver_1 : decode cX9_deliver 1 = .ok (.iload_n 1, 1) := by decide +kernel
theorem dX9_deliver_2 : decode cX9_deliver 2 = .ok (.invokevirtual 278, 3) := by decide +kernel
theorem dX9_deliver_5 : decode cX9_deliver 5 = .ok (.ifCond .ne 6, 3) := by decide +kernel
theorem dX9_deliver_8 : decode cX9_deliver 8 = .ok (.bipush (-101), 2) := by decide +kernel
theorem dX9_deliver_10 : decode cX9_deliver 10 = .ok (.ireturn, 1) := by decide +kernel
theorem dX9_deliver_11 : decode cX9_deliver 11 = .ok (.iload_n 2, 1) := by decide +kernel
theorem dX9_deliver_12 : decode cX9_deliver 12 = .ok (.iconst 0, 1) := by decide +kernel
theorem dX9_deliver_13 : decode cX9_deliver 13 = .ok (.sipush 255, 3) := by decide +kernel
theorem dX9_deliver_16 : decode cX9_deliver 16 = .ok (.invokestatic 123, 3) := by decide +kernel
theorem dX9_deliver_19 : decode cX9_deliver 19 = .ok (.ifCond .ne 6, 3) := by decide +kernel
theorem dX9_deliver_22 : decode cX9_deliver 22 = .ok (.bipush (-102), 2) := by decide +kernel
theorem dX9_deliver_24 : decode cX9_deliver 24 = .ok (.ireturn, 1) := by decide +kernel
theorem dX9_deliver_25 : decode cX9_deliver 25 = .ok (.aload_n 0, 1) := by decide +kernel
theorem dX9_deliver_26 : decode cX9_deliver 26 = .ok (.getfield 107, 3) := by decide +kernel
theorem dX9_deliver_29 : decode cX9_deliver 29 = .ok (.bipush 8, 2) := by decide +kernel
theorem dX9_deliver_31 : decode cX9_deliver 31 = .ok (.iload_n 1, 1) := by decide +kernel
theorem dX9_deliver_32 : decode cX9_deliver 32 = .ok (.imul, 1) := by decide +kernel
theorem dX9_deliver_33 : decode cX9_deliver 33 = .ok (.iaload, 1) := by decide +kernel
theorem dX9_deliver_34 : decode cX9_deliver 34 = .ok (.istore_n 3, 1) := by decide +kernel
theorem dX9_deliver_35 : decode cX9_deliver 35 = .ok (.iload_n 3, 1) := by decide +kernel
theorem dX9_deliver_36 : decode cX9_deliver 36 = .ok (.iconst 1, 1) := by decide +kernel
theorem dX9_deliver_37 : decode cX9_deliver 37 = .ok (.if_icmp .eq 12, 3) := by decide +kernel
theorem dX9_deliver_40 : decode cX9_deliver 40 = .ok (.iload_n 3, 1) := by decide +kernel
theorem dX9_deliver_41 : decode cX9_deliver 41 = .ok (.iconst 4, 1) := by decide +kernel
theorem dX9_deliver_42 : decode cX9_deliver 42 = .ok (.if_icmp .eq 7, 3) := by decide +kernel
theorem dX9_deliver_45 : decode cX9_deliver 45 = .ok (.iconst 1, 1) := by decide +kernel
theorem dX9_deliver_46 : decode cX9_deliver 46 = .ok (.goto 4, 3) := by decide +kernel
theorem dX9_deliver_49 : decode cX9_deliver 49 = .ok (.iconst 0, 1) := by decide +kernel
theorem dX9_deliver_50 : decode cX9_deliver 50 = .ok (.istore 4, 2) := by decide +kernel
theorem dX9_deliver_52 : decode cX9_deliver 52 = .ok (.iload 4, 2) := by decide +kernel
theorem dX9_deliver_54 : decode cX9_deliver 54 = .ok (.ifCond .eq 10, 3) := by decide +kernel
theorem dX9_deliver_57 : decode cX9_deliver 57 = .ok (.aload_n 0, 1) := by decide +kernel
theorem dX9_deliver_58 : decode cX9_deliver 58 = .ok (.invokevirtual 195, 3) := by decide +kernel
theorem dX9_deliver_61 : decode cX9_deliver 61 = .ok (.ifCond .eq 12, 3) := by decide +kernel
theorem dX9_deliver_64 : decode cX9_deliver 64 = .ok (.iload_n 3, 1) := by decide +kernel
theorem dX9_deliver_65 : decode cX9_deliver 65 = .ok (.iconst 2, 1) := by decide +kernel
theorem dX9_deliver_66 : decode cX9_deliver 66 = .ok (.if_icmp .eq 15, 3) := by decide +kernel
theorem dX9_deliver_69 : decode cX9_deliver 69 = .ok (.iload_n 2, 1) := by decide +kernel
theorem dX9_deliver_70 : decode cX9_deliver 70 = .ok (.ifCond .eq 11, 3) := by decide +kernel
theorem dX9_deliver_73 : decode cX9_deliver 73 = .ok (.aload_n 0, 1) := by decide +kernel
theorem dX9_deliver_74 : decode cX9_deliver 74 = .ok (.iload_n 1, 1) := by decide +kernel
theorem dX9_deliver_75 : decode cX9_deliver 75 = .ok (.invokevirtual 226, 3) := by decide +kernel
theorem dX9_deliver_78 : decode cX9_deliver 78 = .ok (.pop, 1) := by decide +kernel
theorem dX9_deliver_79 : decode cX9_deliver 79 = .ok (.iconst (-1), 1) := by decide +kernel
theorem dX9_deliver_80 : decode cX9_deliver 80 = .ok (.ireturn, 1) := by decide +kernel
theorem dX9_deliver_81 : decode cX9_deliver 81 = .ok (.iload_n 3, 1) := by decide +kernel
theorem dX9_deliver_82 : decode cX9_deliver 82 = .ok (.iconst 2, 1) := by decide +kernel
theorem dX9_deliver_83 : decode cX9_deliver 83 = .ok (.if_icmp .ne 10, 3) := by decide +kernel
theorem dX9_deliver_86 : decode cX9_deliver 86 = .ok (.aload_n 0, 1) := by decide +kernel
theorem dX9_deliver_87 : decode cX9_deliver 87 = .ok (.iload_n 1, 1) := by decide +kernel
theorem dX9_deliver_88 : decode cX9_deliver 88 = .ok (.iload_n 2, 1) := by decide +kernel
theorem dX9_deliver_89 : decode cX9_deliver 89 = .ok (.invokevirtual 281, 3) := by decide +kernel
theorem dX9_deliver_92 : decode cX9_deliver 92 = .ok (.ireturn, 1) := by decide +kernel
theorem dX9_deliver_93 : decode cX9_deliver 93 = .ok (.aload_n 0, 1) := by decide +kernel
theorem dX9_deliver_94 : decode cX9_deliver 94 = .ok (.iload_n 1, 1) := by decide +kernel
theorem dX9_deliver_95 : decode cX9_deliver 95 = .ok (.invokevirtual 284, 3) := by decide +kernel
theorem dX9_deliver_98 : decode cX9_deliver 98 = .ok (.iconst 1, 1) := by decide +kernel
theorem dX9_deliver_99 : decode cX9_deliver 99 = .ok (.ireturn, 1) := by decide +kernel
abbrev rm_X9_deliver : Room := { frames := 5, cells := 0, slots := 0, locals := 119 }
def P_X9_deliver_j81 (_q0 : Nat) (i1 : Int32) (i2 : Int32) (i3 : Int32) (h : HP)  (Q : Int32 → HP → Prop) : Prop := ((¬ i3 = 2) → (P_X9_comesOther i1 h (fun (h_95 : HP) => Q 1 h_95))) ∧ ((i3 = 2) → (P_X9_comesBundle i1 i2 h (fun (v_89 : Int32) (h_89 : HP) => Q v_89 h_89)))
def P_X9_deliver_j64 (_q0 : Nat) (i1 : Int32) (i2 : Int32) (i3 : Int32) (h : HP)  (Q : Int32 → HP → Prop) : Prop := ((i3 = 2) → P_X9_deliver_j81 78 i1 i2 i3 h Q) ∧ ((¬ i3 = 2) → (((i2 = 0) → P_X9_deliver_j81 78 i1 i2 i3 h Q) ∧ ((¬ i2 = 0) → (P_X9_loseNow i1 h (fun (v_75 : Int32) (h_75 : HP) => Q (-1) h_75)))))
def P_X9_deliver_j52 (_q0 : Nat) (i1 : Int32) (i2 : Int32) (i3 : Int32) (i4 : Int32) (h : HP)  (Q : Int32 → HP → Prop) : Prop := ((i4 = 0) → P_X9_deliver_j64 78 i1 i2 i3 h Q) ∧ ((¬ i4 = 0) → (P_X9_left h (fun (v_58 : Int32) (h_58 : HP) => ((v_58 = 0) → (P_X9_loseNow i1 h_58 (fun (v_75 : Int32) (h_75 : HP) => Q (-1) h_75))) ∧ ((¬ v_58 = 0) → P_X9_deliver_j64 78 i1 i2 i3 h_58 Q))))
def P_X9_deliver_j49 (_q0 : Nat) (i1 : Int32) (i2 : Int32) (i3 : Int32) (h : HP)  (Q : Int32 → HP → Prop) : Prop := P_X9_deliver_j52 78 i1 i2 i3 0 h Q
def P_X9_deliver (i1 : Int32) (i2 : Int32) (h : HP) (Q : Int32 → HP → Prop) : Prop := P_X9_isLetter i1 h (fun (v_2 : Int32) (h_2 : HP) => ((¬ v_2 = 0) → (P_X9_within i2 0 255 h_2 (fun (v_16 : Int32) (h_16 : HP) => ((¬ v_16 = 0) → ((vp_in (8 * i1) 128) ∧ ((((h_16.1 111 (8 * i1).toNatClampNeg) = 1) → (P_X9_deliver_j49 78 i1 i2 (h_16.1 111 (8 * i1).toNatClampNeg) h_16 Q)) ∧ ((¬ (h_16.1 111 (8 * i1).toNatClampNeg) = 1) → ((((h_16.1 111 (8 * i1).toNatClampNeg) = 4) → (P_X9_deliver_j49 78 i1 i2 (h_16.1 111 (8 * i1).toNatClampNeg) h_16 Q)) ∧ ((¬ (h_16.1 111 (8 * i1).toNatClampNeg) = 4) → (P_X9_deliver_j52 78 i1 i2 (h_16.1 111 (8 * i1).toNatClampNeg) 1 h_16 Q))))))) ∧ ((v_16 = 0) → (Q (-102) h_16))))) ∧ ((v_2 = 0) → (Q (-101) h_2)))
set_option maxHeartbeats 4000000 in
theorem l_X9_deliver_j81 {i1 : Int32} {i2 : Int32} {i3 : Int32} {h : HP}  {Q : Int32 → HP → Prop} {C : Cx} (hC : xOk C cX9_deliver yX9_deliver.cls 5 rm_X9_deliver (some .int)) (hE : xEnd C gM SH (pI Q))   (hp : P_X9_deliver_j81 78 i1 i2 i3 h  Q) : SW C gM 81 [(0, .ref 78), (1, .int i1), (2, .int i2), (3, .int i3)] [] h := by
  unfold P_X9_deliver_j81 at hp
  refine x_iload_n hC dX9_deliver_81 (lm 3 rfl) ?_
  refine x_iconst hC dX9_deliver_82 ic_2 ?_
  refine x_icmp_ne (tgt := 93) hC dX9_deliver_83 (by decide) (fun hc => ?_) (fun hc => ?_)
  · have hp := hp.1 hc
    refine x_aload_n hC dX9_deliver_93 (lm 0 rfl) ?_
    refine x_iload_n hC dX9_deliver_94 (lm 1 rfl) ?_
    refine s_callVv (avs := [.int i1]) (st := []) hC dX9_deliver_95 ml_9_284 mi_X9_comesOther ty_78 rfl (t_X9_comesOther  hp) (Nat.le_of_ble_eq_true rfl) ⟨rfl, rfl⟩ ⟨Nat.le_of_ble_eq_true rfl, Nat.le_of_ble_eq_true rfl⟩ (fun h_95 hp => ?_)
    refine x_iconst hC dX9_deliver_98 ic_1 ?_
    exact x_iret hC hE dX9_deliver_99 ⟨_, _, rfl, rfl, hp⟩
  · have hp := hp.2 hc
    refine x_aload_n hC dX9_deliver_86 (lm 0 rfl) ?_
    refine x_iload_n hC dX9_deliver_87 (lm 1 rfl) ?_
    refine x_iload_n hC dX9_deliver_88 (lm 2 rfl) ?_
    refine s_callVi (avs := [.int i1, .int i2]) (st := []) hC dX9_deliver_89 ml_9_281 mi_X9_comesBundle ty_78 rfl (t_X9_comesBundle  hp) (Nat.le_of_ble_eq_true rfl) ⟨rfl, rfl⟩ ⟨Nat.le_of_ble_eq_true rfl, Nat.le_of_ble_eq_true rfl⟩ (fun v_89 h_89 hp => ?_)
    exact x_iret hC hE dX9_deliver_92 ⟨_, _, rfl, rfl, hp⟩
set_option maxHeartbeats 4000000 in
theorem l_X9_deliver_j64 {i1 : Int32} {i2 : Int32} {i3 : Int32} {h : HP}  {Q : Int32 → HP → Prop} {C : Cx} (hC : xOk C cX9_deliver yX9_deliver.cls 5 rm_X9_deliver (some .int)) (hE : xEnd C gM SH (pI Q))   (hp : P_X9_deliver_j64 78 i1 i2 i3 h  Q) : SW C gM 64 [(0, .ref 78), (1, .int i1), (2, .int i2), (3, .int i3)] [] h := by
  unfold P_X9_deliver_j64 at hp
  refine x_iload_n hC dX9_deliver_64 (lm 3 rfl) ?_
  refine x_iconst hC dX9_deliver_65 ic_2 ?_
  refine x_icmp_eq (tgt := 81) hC dX9_deliver_66 (by decide) (fun hc => ?_) (fun hc => ?_)
  · have hp := hp.1 hc
    exact x_subk [0, 1, 2, 3] rfl (l_X9_deliver_j81 hC hE   hp)
  · have hp := hp.2 hc
    refine x_iload_n hC dX9_deliver_69 (lm 2 rfl) ?_
    refine x_if_eq (tgt := 81) hC dX9_deliver_70 (by decide) (fun hc => ?_) (fun hc => ?_)
    · have hp := hp.1 hc
      exact x_subk [0, 1, 2, 3] rfl (l_X9_deliver_j81 hC hE   hp)
    · have hp := hp.2 hc
      refine x_aload_n hC dX9_deliver_73 (lm 0 rfl) ?_
      refine x_iload_n hC dX9_deliver_74 (lm 1 rfl) ?_
      refine s_callVi (avs := [.int i1]) (st := []) hC dX9_deliver_75 ml_9_226 mi_X9_loseNow ty_78 rfl (t_X9_loseNow  hp) (Nat.le_of_ble_eq_true rfl) ⟨rfl, rfl⟩ ⟨Nat.le_of_ble_eq_true rfl, Nat.le_of_ble_eq_true rfl⟩ (fun v_75 h_75 hp => ?_)
      refine x_pop hC dX9_deliver_78 rfl ?_
      refine x_iconst hC dX9_deliver_79 ic_m1 ?_
      exact x_iret hC hE dX9_deliver_80 ⟨_, _, rfl, rfl, hp⟩
set_option maxHeartbeats 4000000 in
theorem l_X9_deliver_j52 {i1 : Int32} {i2 : Int32} {i3 : Int32} {i4 : Int32} {h : HP}  {Q : Int32 → HP → Prop} {C : Cx} (hC : xOk C cX9_deliver yX9_deliver.cls 5 rm_X9_deliver (some .int)) (hE : xEnd C gM SH (pI Q))   (hp : P_X9_deliver_j52 78 i1 i2 i3 i4 h  Q) : SW C gM 52 [(0, .ref 78), (1, .int i1), (2, .int i2), (3, .int i3), (4, .int i4)] [] h := by
  unfold P_X9_deliver_j52 at hp
  refine x_iload hC dX9_deliver_52 (lm 4 rfl) ?_
  refine x_if_eq (tgt := 64) hC dX9_deliver_54 (by decide) (fun hc => ?_) (fun hc => ?_)
  · have hp := hp.1 hc
    exact x_subk [0, 1, 2, 3] rfl (l_X9_deliver_j64 hC hE   hp)
  · have hp := hp.2 hc
    refine x_aload_n hC dX9_deliver_57 (lm 0 rfl) ?_
    refine s_callVi (avs := []) (st := []) hC dX9_deliver_58 ml_9_195 mi_X9_left ty_78 rfl (t_X9_left  hp) (Nat.le_of_ble_eq_true rfl) ⟨rfl, rfl⟩ ⟨Nat.le_of_ble_eq_true rfl, Nat.le_of_ble_eq_true rfl⟩ (fun v_58 h_58 hp => ?_)
    refine x_if_eq (tgt := 73) hC dX9_deliver_61 (by decide) (fun hc => ?_) (fun hc => ?_)
    · have hp := hp.1 hc
      refine x_aload_n hC dX9_deliver_73 (lm 0 rfl) ?_
      refine x_iload_n hC dX9_deliver_74 (lm 1 rfl) ?_
      refine s_callVi (avs := [.int i1]) (st := []) hC dX9_deliver_75 ml_9_226 mi_X9_loseNow ty_78 rfl (t_X9_loseNow  hp) (Nat.le_of_ble_eq_true rfl) ⟨rfl, rfl⟩ ⟨Nat.le_of_ble_eq_true rfl, Nat.le_of_ble_eq_true rfl⟩ (fun v_75 h_75 hp => ?_)
      refine x_pop hC dX9_deliver_78 rfl ?_
      refine x_iconst hC dX9_deliver_79 ic_m1 ?_
      exact x_iret hC hE dX9_deliver_80 ⟨_, _, rfl, rfl, hp⟩
    · have hp := hp.2 hc
      exact x_subk [0, 1, 2, 3] rfl (l_X9_deliver_j64 hC hE   hp)
set_option maxHeartbeats 4000000 in
theorem l_X9_deliver_j49 {i1 : Int32} {i2 : Int32} {i3 : Int32} {h : HP}  {Q : Int32 → HP → Prop} {C : Cx} (hC : xOk C cX9_deliver yX9_deliver.cls 5 rm_X9_deliver (some .int)) (hE : xEnd C gM SH (pI Q))   (hp : P_X9_deliver_j49 78 i1 i2 i3 h  Q) : SW C gM 49 [(0, .ref 78), (1, .int i1), (2, .int i2), (3, .int i3)] [] h := by
  unfold P_X9_deliver_j49 at hp
  refine x_iconst hC dX9_deliver_49 ic_0 ?_
  refine x_istore (lv' := [(4, .int 0), (0, .ref 78), (1, .int i1), (2, .int i2), (3, .int i3)]) hC dX9_deliver_50 (by decide) rfl ?_
  exact x_subk [1, 2, 3, 4, 0] rfl (l_X9_deliver_j52 hC hE   hp)
set_option maxHeartbeats 4000000 in
theorem t_X9_deliver {i1 : Int32} {i2 : Int32} {h : HP} {Q : Int32 → HP → Prop}  (hp : P_X9_deliver i1 i2 h Q) : MT yX9_deliver cX9_deliver 5 (some .int) rm_X9_deliver [.ref 78, .int i1, .int i2] gM SH (emb h) (pI Q) := by
  refine MT.of (by decide +kernel) (Nat.le_of_ble_eq_true rfl) (fun C hC hE => ?_)
  show SW C gM 0 [(0, .ref 78), (1, .int i1), (2, .int i2)] [] h
  unfold P_X9_deliver at hp
  refine x_aload_n hC dX9_deliver_0 (lm 0 rfl) ?_
  refine x_iload_n hC dX9_deliver_1 (lm 1 rfl) ?_
  refine s_callVi (avs := [.int i1]) (st := []) hC dX9_deliver_2 ml_9_278 mi_X9_isLetter ty_78 rfl (t_X9_isLetter  hp) (Nat.le_of_ble_eq_true rfl) ⟨rfl, rfl⟩ ⟨Nat.le_of_ble_eq_true rfl, Nat.le_of_ble_eq_true rfl⟩ (fun v_2 h_2 hp => ?_)
  refine x_if_ne (tgt := 11) hC dX9_deliver_5 (by decide) (fun hc => ?_) (fun hc => ?_)
  · have hp := hp.1 hc
    refine x_iload_n hC dX9_deliver_11 (lm 2 rfl) ?_
    refine x_iconst hC dX9_deliver_12 ic_0 ?_
    refine x_sipush hC dX9_deliver_13 sp_255 ?_
    refine s_callSi (avs := [.int i2, .int 0, .int 255]) (st := []) hC dX9_deliver_16 ml_9_123 ms_X9_within rfl (t_X9_within  hp) (Nat.le_of_ble_eq_true rfl) ⟨rfl, rfl⟩ ⟨Nat.le_of_ble_eq_true rfl, Nat.le_of_ble_eq_true rfl⟩ (fun v_16 h_16 hp => ?_)
    refine x_if_ne (tgt := 25) hC dX9_deliver_19 (by decide) (fun hc => ?_) (fun hc => ?_)
    · have hp := hp.1 hc
      refine x_aload_n hC dX9_deliver_25 (lm 0 rfl) ?_
      refine s_getR (r := 111) hC dX9_deliver_26 fk_9_107 ty_78 (fr_9_40 ty_78).1 ?_
      refine x_bipush hC dX9_deliver_29 bp_8 ?_
      refine x_iload_n hC dX9_deliver_31 (lm 1 rfl) ?_
      refine x_imul hC dX9_deliver_32 ?_
      obtain ⟨ho, hp⟩ := hp
      refine s_iald hC dX9_deliver_33 ((fr_9_40 ty_78).2) ho ?_
      refine x_istore_n (lv' := [(3, .int (h_16.1 111 (8 * i1).toNatClampNeg)), (0, .ref 78), (1, .int i1), (2, .int i2)]) hC dX9_deliver_34 (by decide) rfl ?_
      refine x_iload_n hC dX9_deliver_35 (lm 0 rfl) ?_
      refine x_iconst hC dX9_deliver_36 ic_1 ?_
      refine x_icmp_eq (tgt := 49) hC dX9_deliver_37 (by decide) (fun hc => ?_) (fun hc => ?_)
      · have hp := hp.1 hc
        exact x_subk [1, 2, 3, 0] rfl (l_X9_deliver_j49 hC hE   hp)
      · have hp := hp.2 hc
        refine x_iload_n hC dX9_deliver_40 (lm 0 rfl) ?_
        refine x_iconst hC dX9_deliver_41 ic_4 ?_
        refine x_icmp_eq (tgt := 49) hC dX9_deliver_42 (by decide) (fun hc => ?_) (fun hc => ?_)
        · have hp := hp.1 hc
          exact x_subk [1, 2, 3, 0] rfl (l_X9_deliver_j49 hC hE   hp)
        · have hp := hp.2 hc
          refine x_iconst hC dX9_deliver_45 ic_1 ?_
          refine x_goto (tgt := 50) hC dX9_deliver_46 (by decide) ?_
          refine x_istore (lv' := [(4, .int 1), (3, .int (h_16.1 111 (8 * i1).toNatClampNeg)), (0, .ref 78), (1, .int i1), (2, .int i2)]) hC dX9_deliver_50 (by decide) rfl ?_
          exact x_subk [2, 3, 4, 1, 0] rfl (l_X9_deliver_j52 hC hE   hp)
    · have hp := hp.2 hc
      refine x_bipush hC dX9_deliver_22 bp_m102 ?_
      exact x_iret hC hE dX9_deliver_24 ⟨_, _, rfl, rfl, hp⟩
  · have hp := hp.2 hc
    refine x_bipush hC dX9_deliver_8 bp_m101 ?_
    exact x_iret hC hE dX9_deliver_10 ⟨_, _, rfl, rfl, hp⟩
theorem dX9_lose_0 : decode cX9_lose 0 = .ok (.aload_n 0, 1) := by decide +kernel
theorem dX9_lose_1 : decode cX9_lose 1 = .ok (.iload_n 1, 1) := by decide +kernel
theorem dX9_lose_2 : decode cX9_lose 2 = .ok (.invokevirtual 278, 3) := by decide +kernel
theorem dX9_lose_5 : decode cX9_lose 5 = .ok (.ifCond .eq 11, 3) := by decide +kernel
theorem dX9_lose_8 : decode cX9_lose 8 = .ok (.aload_n 0, 1) := by decide +kernel
theorem dX9_lose_9 : decode cX9_lose 9 = .ok (.iload_n 1, 1) := by decide +kernel
theorem dX9_lose_10 : decode cX9_lose 10 = .ok (.invokevirtual 226, 3) := by decide +kernel
theorem dX9_lose_13 : decode cX9_lose 13 = .ok (.goto 5, 3) := by decide +kernel
theorem dX9_lose_16 : decode cX9_lose 16 = .ok (.bipush (-101), 2) := by decide +kernel
theorem dX9_lose_18 : decode cX9_lose 18 = .ok (.ireturn, 1) := by decide +kernel
abbrev rm_X9_lose : Room := { frames := 2, cells := 0, slots := 0, locals := 44 }
def P_X9_lose (i1 : Int32) (h : HP) (Q : Int32 → HP → Prop) : Prop := P_X9_isLetter i1 h (fun (v_2 : Int32) (h_2 : HP) => ((v_2 = 0) → (Q (-101) h_2)) ∧ ((¬ v_2 = 0) → (P_X9_loseNow i1 h_2 (fun (v_10 : Int32) (h_10 : HP) => Q v_10 h_10))))
set_option maxHeartbeats 4000000 in
theorem t_X9_lose {i1 : Int32} {h : HP} {Q : Int32 → HP → Prop}  (hp : P_X9_lose i1 h Q) : MT yX9_lose cX9_lose 2 (some .int) rm_X9_lose [.ref 78, .int i1] gM SH (emb h) (pI Q) := by
  refine MT.of (by decide +kernel) (Nat.le_of_ble_eq_true rfl) (fun C hC hE => ?_)
  show SW C gM 0 [(0, .ref 78), (1, .int i1)] [] h
  unfold P_X9_lose at hp
  refine x_aload_n hC dX9_lose_0 (lm 0 rfl) ?_
  refine x_iload_n hC dX9_lose_1 (lm 1 rfl) ?_
  refine s_callVi (avs := [.int i1]) (st := []) hC dX9_lose_2 ml_9_278 mi_X9_isLetter ty_78 rfl (t_X9_isLetter  hp) (Nat.le_of_ble_eq_true rfl) ⟨rfl, rfl⟩ ⟨Nat.le_of_ble_eq_true rfl, Nat.le_of_ble_eq_true rfl⟩ (fun v_2 h_2 hp => ?_)
  refine x_if_eq (tgt := 16) hC dX9_lose_5 (by decide) (fun hc => ?_) (fun hc => ?_)
  · have hp := hp.1 hc
    refine x_bipush hC dX9_lose_16 bp_m101 ?_
    exact x_iret hC hE dX9_lose_18 ⟨_, _, rfl, rfl, hp⟩
  · have hp := hp.2 hc
    refine x_aload_n hC dX9_lose_8 (lm 0 rfl) ?_
    refine x_iload_n hC dX9_lose_9 (lm 1 rfl) ?_
    refine s_callVi (avs := [.int i1]) (st := []) hC dX9_lose_10 ml_9_226 mi_X9_loseNow ty_78 rfl (t_X9_loseNow  hp) (Nat.le_of_ble_eq_true rfl) ⟨rfl, rfl⟩ ⟨Nat.le_of_ble_eq_true rfl, Nat.le_of_ble_eq_true rfl⟩ (fun v_10 h_10 hp => ?_)
    refine x_goto (tgt := 18) hC dX9_lose_13 (by decide) ?_
    exact x_iret hC hE dX9_lose_18 ⟨_, _, rfl, rfl, hp⟩
theorem dX9_firstHeld_0 : decode cX9_firstHeld 0 = .ok (.iconst 0, 1) := by decide +kernel
theorem dX9_firstHeld_1 : decode cX9_firstHeld 1 = .ok (.istore_n 2, 1) := by decide +kernel
theorem dX9_firstHeld_2 : decode cX9_firstHeld 2 = .ok (.iload_n 2, 1) := by decide +kernel
theorem dX9_firstHeld_3 : decode cX9_firstHeld 3 = .ok (.aload_n 0, 1) := by decide +kernel
theorem dX9_firstHeld_4 : decode cX9_firstHeld 4 = .ok (.getfield 77, 3) := by decide +kernel
theorem dX9_firstHeld_7 : decode cX9_firstHeld 7 = .ok (.iload_n 1, 1) := by decide +kernel
theorem dX9_firstHeld_8 : decode cX9_firstHeld 8 = .ok (.iaload, 1) := by decide +kernel
theorem dX9_firstHeld_9 : decode cX9_firstHeld 9 = .ok (.if_icmp .ge 37, 3) := by decide +kernel
theorem dX9_firstHeld_12 : decode cX9_firstHeld 12 = .ok (.aload_n 0, 1) := by decide +kernel
theorem dX9_firstHeld_13 : decode cX9_firstHeld 13 = .ok (.getfield 83, 3) := by decide +kernel
theorem dX9_firstHeld_16 : decode cX9_firstHeld 16 = .ok (.iload_n 1, 1) := by decide +kernel
theorem dX9_firstHeld_17 : decode cX9_firstHeld 17 = .ok (.iaload, 1) := by decide +kernel
theorem dX9_firstHeld_18 : decode cX9_firstHeld 18 = .ok (.iload_n 2, 1) := by decide +kernel
theorem dX9_firstHeld_19 : decode cX9_firstHeld 19 = .ok (.iadd, 1) := by decide +kernel
theorem dX9_firstHeld_20 : decode cX9_firstHeld 20 = .ok (.bipush 64, 2) := by decide +kernel
theorem dX9_firstHeld_22 : decode cX9_firstHeld 22 = .ok (.irem, 1) := by decide +kernel
theorem dX9_firstHeld_23 : decode cX9_firstHeld 23 = .ok (.istore_n 3, 1) := by decide +kernel
theorem dX9_firstHeld_24 : decode cX9_firstHeld 24 = .ok (.aload_n 0, 1) := by decide +kernel
theorem dX9_firstHeld_25 : decode cX9_firstHeld 25 = .ok (.getfield 98, 3) := by decide +kernel
theorem dX9_firstHeld_28 : decode cX9_firstHeld 28 = .ok (.bipush 64, 2) := by decide +kernel
theorem dX9_firstHeld_30 : decode cX9_firstHeld 30 = .ok (.iload_n 1, 1) := by decide +kernel
theorem dX9_firstHeld_31 : decode cX9_firstHeld 31 = .ok (.imul, 1) := by decide +kernel
theorem dX9_firstHeld_32 : decode cX9_firstHeld 32 = .ok (.iload_n 3, 1) := by decide +kernel
theorem dX9_firstHeld_33 : decode cX9_firstHeld 33 = .ok (.iadd, 1) := by decide +kernel
theorem dX9_firstHeld_34 : decode cX9_firstHeld 34 = .ok (.iaload, 1) := by decide +kernel
theorem dX9_firstHeld_35 : decode cX9_firstHeld 35 = .ok (.ifCond .le 5, 3) := by decide +kernel
theorem dX9_firstHeld_38 : decode cX9_firstHeld 38 = .ok (.iload_n 3, 1) := by decide +kernel
theorem dX9_firstHeld_39 : decode cX9_firstHeld 39 = .ok (.ireturn, 1) := by decide +kernel
theorem dX9_firstHeld_40 : decode cX9_firstHeld 40 = .ok (.iinc 2 1, 3) := by decide +kernel
theorem dX9_firstHeld_43 : decode cX9_firstHeld 43 = .ok (.goto (-41), 3) := by decide +kernel
theorem dX9_firstHeld_46 : decode cX9_firstHeld 46 = .ok (.iconst (-1), 1) := by decide +kernel
theorem dX9_firstHeld_47 : decode cX9_firstHeld 47 = .ok (.ireturn, 1) := by decide +kernel
abbrev rm_X9_firstHeld : Room := { frames := 0, cells := 0, slots := 0, locals := 0 }
def P_X9_firstHeld (i1 : Int32) (h : HP) (Q : Int32 → HP → Prop) : Prop := Lp2 (fun X_2 (i2_2 : Int32) (h_2 : HP) => (vp_in i1 4) ∧ ((((h_2.1 101 i1.toNatClampNeg) ≤ i2_2) → (Q (-1) h_2)) ∧ ((¬ (h_2.1 101 i1.toNatClampNeg) ≤ i2_2) → ((vp_in i1 4) ∧ ((vp_in ((64 * i1) + (((h_2.1 103 i1.toNatClampNeg) + i2_2) - ((h_2.1 103 i1.toNatClampNeg) + i2_2) / 64 * 64)) 256) ∧ ((((h_2.1 108 ((64 * i1) + (((h_2.1 103 i1.toNatClampNeg) + i2_2) - ((h_2.1 103 i1.toNatClampNeg) + i2_2) / 64 * 64)).toNatClampNeg) ≤ 0) → (X_2 (i2_2 + 1) h_2)) ∧ ((¬ (h_2.1 108 ((64 * i1) + (((h_2.1 103 i1.toNatClampNeg) + i2_2) - ((h_2.1 103 i1.toNatClampNeg) + i2_2) / 64 * 64)).toNatClampNeg) ≤ 0) → (Q (((h_2.1 103 i1.toNatClampNeg) + i2_2) - ((h_2.1 103 i1.toNatClampNeg) + i2_2) / 64 * 64) h_2)))))))) 0 h
set_option maxHeartbeats 4000000 in
theorem t_X9_firstHeld {i1 : Int32} {h : HP} {Q : Int32 → HP → Prop}  (hp : P_X9_firstHeld i1 h Q) : MT yX9_firstHeld cX9_firstHeld 4 (some .int) rm_X9_firstHeld [.ref 78, .int i1] gM SH (emb h) (pI Q) := by
  refine MT.of (by decide +kernel) (Nat.le_of_ble_eq_true rfl) (fun C hC hE => ?_)
  show SW C gM 0 [(0, .ref 78), (1, .int i1)] [] h
  unfold P_X9_firstHeld at hp
  refine x_iconst hC dX9_firstHeld_0 ic_0 ?_
  refine x_istore_n (lv' := [(2, .int 0), (0, .ref 78), (1, .int i1)]) hC dX9_firstHeld_1 (by decide) rfl ?_
  refine x_subk (lv' := [(0, .ref 78), (1, .int i1), (2, .int 0)]) [1, 2, 0] rfl ?_
  refine hp (fun i2_2 h_2 => SW C gM 2 [(0, .ref 78), (1, .int i1), (2, .int i2_2)] [] h_2) (fun i2_2 h_2 hp => ?_)
  refine x_iload_n hC dX9_firstHeld_2 (lm 2 rfl) ?_
  refine x_aload_n hC dX9_firstHeld_3 (lm 0 rfl) ?_
  refine s_getR (r := 101) hC dX9_firstHeld_4 fk_9_77 ty_78 (fr_9_29 ty_78).1 ?_
  refine x_iload_n hC dX9_firstHeld_7 (lm 1 rfl) ?_
  obtain ⟨ho, hp⟩ := hp
  refine s_iald hC dX9_firstHeld_8 ((fr_9_29 ty_78).2) ho ?_
  refine x_icmp_ge (tgt := 46) hC dX9_firstHeld_9 (by decide) (fun hc => ?_) (fun hc => ?_)
  · have hp := hp.1 hc
    refine x_iconst hC dX9_firstHeld_46 ic_m1 ?_
    exact x_iret hC hE dX9_firstHeld_47 ⟨_, _, rfl, rfl, hp⟩
  · have hp := hp.2 hc
    refine x_aload_n hC dX9_firstHeld_12 (lm 0 rfl) ?_
    refine s_getR (r := 103) hC dX9_firstHeld_13 fk_9_83 ty_78 (fr_9_31 ty_78).1 ?_
    refine x_iload_n hC dX9_firstHeld_16 (lm 1 rfl) ?_
    obtain ⟨ho, hp⟩ := hp
    refine s_iald hC dX9_firstHeld_17 ((fr_9_31 ty_78).2) ho ?_
    refine x_iload_n hC dX9_firstHeld_18 (lm 2 rfl) ?_
    refine x_iadd hC dX9_firstHeld_19 ?_
    refine x_bipush hC dX9_firstHeld_20 bp_64 ?_
    refine x_irem hC dX9_firstHeld_22 (by decide) ?_
    refine x_istore_n (lv' := [(3, .int (((h_2.1 103 i1.toNatClampNeg) + i2_2) - ((h_2.1 103 i1.toNatClampNeg) + i2_2) / 64 * 64)), (0, .ref 78), (1, .int i1), (2, .int i2_2)]) hC dX9_firstHeld_23 (by decide) rfl ?_
    refine x_aload_n hC dX9_firstHeld_24 (lm 1 rfl) ?_
    refine s_getR (r := 108) hC dX9_firstHeld_25 fk_9_98 ty_78 (fr_9_36 ty_78).1 ?_
    refine x_bipush hC dX9_firstHeld_28 bp_64 ?_
    refine x_iload_n hC dX9_firstHeld_30 (lm 2 rfl) ?_
    refine x_imul hC dX9_firstHeld_31 ?_
    refine x_iload_n hC dX9_firstHeld_32 (lm 0 rfl) ?_
    refine x_iadd hC dX9_firstHeld_33 ?_
    obtain ⟨ho, hp⟩ := hp
    refine s_iald hC dX9_firstHeld_34 ((fr_9_36 ty_78).2) ho ?_
    refine x_if_le (tgt := 40) hC dX9_firstHeld_35 (by decide) (fun hc => ?_) (fun hc => ?_)
    · have hp := hp.1 hc
      refine x_iinc (u := i2_2 + 1) (lv' := [(2, .int (i2_2 + 1)), (3, .int (((h_2.1 103 i1.toNatClampNeg) + i2_2) - ((h_2.1 103 i1.toNatClampNeg) + i2_2) / 64 * 64)), (0, .ref 78), (1, .int i1)]) hC dX9_firstHeld_40 (lm 3 rfl) (congrArg _ ic_1) (by decide) rfl ?_
      refine x_goto (tgt := 2) hC dX9_firstHeld_43 (by decide) ?_
      exact x_subk [2, 3, 0] rfl hp
    · have hp := hp.2 hc
      refine x_iload_n hC dX9_firstHeld_38 (lm 0 rfl) ?_
      exact x_iret hC hE dX9_firstHeld_39 ⟨_, _, rfl, rfl, hp⟩
theorem dX9_tick_0 : decode cX9_tick 0 = .ok (.aload_n 0, 1) := by decide +kernel
theorem dX9_tick_1 : decode cX9_tick 1 = .ok (.getfield 71, 3) := by decide +kernel
theorem dX9_tick_4 : decode cX9_tick 4 = .ok (.iload_n 1, 1) := by decide +kernel
theorem dX9_tick_5 : decode cX9_tick 5 = .ok (.baload, 1) := by decide +kernel
theorem dX9_tick_6 : decode cX9_tick 6 = .ok (.ifCond .eq 22, 3) := by decide +kernel
theorem dX9_tick_9 : decode cX9_tick 9 = .ok (.aload_n 0, 1) := by decide +kernel
theorem dX9_tick_10 : decode cX9_tick 10 = .ok (.getfield 74, 3) := by decide +kernel
theorem dX9_tick_13 : decode cX9_tick 13 = .ok (.iload_n 1, 1) := by decide +kernel
theorem dX9_tick_14 : decode cX9_tick 14 = .ok (.iaload, 1) := by decide +kernel
theorem dX9_tick_15 : decode cX9_tick 15 = .ok (.iconst 1, 1) := by decide +kernel
theorem dX9_tick_16 : decode cX9_tick 16 = .ok (.if_icmp .ne 12, 3) := by decide +kernel
theorem dX9_tick_19 : decode cX9_tick 19 = .ok (.aload_n 0, 1) := by decide +kernel
theorem dX9_tick_20 : decode cX9_tick 20 = .ok (.iload_n 1, 1) := by decide +kernel
theorem dX9_tick_21 : decode cX9_tick 21 = .ok (.invokevirtual 287, 3) := by decide +kernel
theorem dX9_tick_24 : decode cX9_tick 24 = .ok (.iconst (-1), 1) := by decide +kernel
theorem dX9_tick_25 : decode cX9_tick 25 = .ok (.if_icmp .ne 4, 3) := by decide +kernel
theorem dX9_tick_28 : decode cX9_tick 28 = .ok (.return_, 1) := by decide +kernel
theorem dX9_tick_29 : decode cX9_tick 29 = .ok (.aload_n 0, 1) := by decide +kernel
theorem dX9_tick_30 : decode cX9_tick 30 = .ok (.getfield 92, 3) := by decide +kernel
theorem dX9_tick_33 : decode cX9_tick 33 = .ok (.iload_n 1, 1) := by decide +kernel
theorem dX9_tick_34 : decode cX9_tick 34 = .ok (.dup2, 1) := by decide +kernel
theorem dX9_tick_35 : decode cX9_tick 35 = .ok (.iaload, 1) := by decide +kernel
theorem dX9_tick_36 : decode cX9_tick 36 = .ok (.iconst 1, 1) := by decide +kernel
theorem dX9_tick_37 : decode cX9_tick 37 = .ok (.iadd, 1) := by decide +kernel
theorem dX9_tick_38 : decode cX9_tick 38 = .ok (.iastore, 1) := by decide +kernel
theorem dX9_tick_39 : decode cX9_tick 39 = .ok (.aload_n 0, 1) := by decide +kernel
theorem dX9_tick_40 : decode cX9_tick 40 = .ok (.getfield 92, 3) := by decide +kernel
theorem dX9_tick_43 : decode cX9_tick 43 = .ok (.iload_n 1, 1) := by decide +kernel
theorem dX9_tick_44 : decode cX9_tick 44 = .ok (.iaload, 1) := by decide +kernel
theorem dX9_tick_45 : decode cX9_tick 45 = .ok (.aload_n 0, 1) := by decide +kernel
theorem dX9_tick_46 : decode cX9_tick 46 = .ok (.getfield 80, 3) := by decide +kernel
theorem dX9_tick_49 : decode cX9_tick 49 = .ok (.iload_n 1, 1) := by decide +kernel
theorem dX9_tick_50 : decode cX9_tick 50 = .ok (.iaload, 1) := by decide +kernel
theorem dX9_tick_51 : decode cX9_tick 51 = .ok (.if_icmp .ne 18, 3) := by decide +kernel
theorem dX9_tick_54 : decode cX9_tick 54 = .ok (.aload_n 0, 1) := by decide +kernel
theorem dX9_tick_55 : decode cX9_tick 55 = .ok (.iload_n 1, 1) := by decide +kernel
theorem dX9_tick_56 : decode cX9_tick 56 = .ok (.aload_n 0, 1) := by decide +kernel
theorem dX9_tick_57 : decode cX9_tick 57 = .ok (.iload_n 1, 1) := by decide +kernel
theorem dX9_tick_58 : decode cX9_tick 58 = .ok (.invokevirtual 287, 3) := by decide +kernel
theorem dX9_tick_61 : decode cX9_tick 61 = .ok (.invokevirtual 253, 3) := by decide +kernel
theorem dX9_tick_64 : decode cX9_tick 64 = .ok (.aload_n 0, 1) := by decide +kernel
theorem dX9_tick_65 : decode cX9_tick 65 = .ok (.iload_n 1, 1) := by decide +kernel
theorem dX9_tick_66 : decode cX9_tick 66 = .ok (.invokevirtual 256, 3) := by decide +kernel
theorem dX9_tick_69 : decode cX9_tick 69 = .ok (.return_, 1) := by decide +kernel
abbrev rm_X9_tick : Room := { frames := 3, cells := 0, slots := 0, locals := 67 }
def P_X9_tick (i1 : Int32) (h : HP) (Q : HP → Prop) : Prop := (vp_in i1 4) ∧ ((((h.1 99 i1.toNatClampNeg) = 0) → Q h) ∧ ((¬ (h.1 99 i1.toNatClampNeg) = 0) → ((vp_in i1 4) ∧ (((¬ (h.1 100 i1.toNatClampNeg) = 1) → Q h) ∧ (((h.1 100 i1.toNatClampNeg) = 1) → (P_X9_firstHeld i1 h (fun (v_21 : Int32) (h_21 : HP) => ((¬ v_21 = (-1)) → ((vp_in i1 4) ∧ ((vp_in i1 4) ∧ ((vp_in i1 4) ∧ ((vp_in i1 4) ∧ (((¬ ((si h_21 106 i1.toNatClampNeg ((h_21.1 106 i1.toNatClampNeg) + 1)).1 106 i1.toNatClampNeg) = ((si h_21 106 i1.toNatClampNeg ((h_21.1 106 i1.toNatClampNeg) + 1)).1 102 i1.toNatClampNeg)) → (Q (si h_21 106 i1.toNatClampNeg ((h_21.1 106 i1.toNatClampNeg) + 1)))) ∧ ((((si h_21 106 i1.toNatClampNeg ((h_21.1 106 i1.toNatClampNeg) + 1)).1 106 i1.toNatClampNeg) = ((si h_21 106 i1.toNatClampNeg ((h_21.1 106 i1.toNatClampNeg) + 1)).1 102 i1.toNatClampNeg)) → (P_X9_firstHeld i1 (si h_21 106 i1.toNatClampNeg ((h_21.1 106 i1.toNatClampNeg) + 1)) (fun (v_58 : Int32) (h_58 : HP) => P_X9_movesTo i1 v_58 h_58 (fun (h_61 : HP) => P_X9_goesOn i1 h_61 (fun (h_66 : HP) => Q h_66))))))))))) ∧ ((v_21 = (-1)) → Q h_21))))))))
set_option maxHeartbeats 4000000 in
theorem t_X9_tick {i1 : Int32} {h : HP} {Q : HP → Prop}  (hp : P_X9_tick i1 h Q) : MT yX9_tick cX9_tick 2 none rm_X9_tick [.ref 78, .int i1] gM SH (emb h) (pV Q) := by
  refine MT.of (by decide +kernel) (Nat.le_of_ble_eq_true rfl) (fun C hC hE => ?_)
  show SW C gM 0 [(0, .ref 78), (1, .int i1)] [] h
  unfold P_X9_tick at hp
  refine x_aload_n hC dX9_tick_0 (lm 0 rfl) ?_
  refine s_getR (r := 99) hC dX9_tick_1 fk_9_71 ty_78 (fr_9_27 ty_78).1 ?_
  refine x_iload_n hC dX9_tick_4 (lm 1 rfl) ?_
  obtain ⟨ho, hp⟩ := hp
  refine s_zald hC dX9_tick_5 ((fr_9_27 ty_78).2) ho ?_
  refine x_if_eq (tgt := 28) hC dX9_tick_6 (by decide) (fun hc => ?_) (fun hc => ?_)
  · have hp := hp.1 hc
    exact x_vret hC hE dX9_tick_28 ⟨_, rfl, rfl, hp⟩
  · have hp := hp.2 hc
    refine x_aload_n hC dX9_tick_9 (lm 0 rfl) ?_
    refine s_getR (r := 100) hC dX9_tick_10 fk_9_74 ty_78 (fr_9_28 ty_78).1 ?_
    refine x_iload_n hC dX9_tick_13 (lm 1 rfl) ?_
    obtain ⟨ho, hp⟩ := hp
    refine s_iald hC dX9_tick_14 ((fr_9_28 ty_78).2) ho ?_
    refine x_iconst hC dX9_tick_15 ic_1 ?_
    refine x_icmp_ne (tgt := 28) hC dX9_tick_16 (by decide) (fun hc => ?_) (fun hc => ?_)
    · have hp := hp.1 hc
      exact x_vret hC hE dX9_tick_28 ⟨_, rfl, rfl, hp⟩
    · have hp := hp.2 hc
      refine x_aload_n hC dX9_tick_19 (lm 0 rfl) ?_
      refine x_iload_n hC dX9_tick_20 (lm 1 rfl) ?_
      refine s_callVi (avs := [.int i1]) (st := []) hC dX9_tick_21 ml_9_287 mi_X9_firstHeld ty_78 rfl (t_X9_firstHeld  hp) (Nat.le_of_ble_eq_true rfl) ⟨rfl, rfl⟩ ⟨Nat.le_of_ble_eq_true rfl, Nat.le_of_ble_eq_true rfl⟩ (fun v_21 h_21 hp => ?_)
      refine x_iconst hC dX9_tick_24 ic_m1 ?_
      refine x_icmp_ne (tgt := 29) hC dX9_tick_25 (by decide) (fun hc => ?_) (fun hc => ?_)
      · have hp := hp.1 hc
        refine x_aload_n hC dX9_tick_29 (lm 0 rfl) ?_
        refine s_getR (r := 106) hC dX9_tick_30 fk_9_92 ty_78 (fr_9_34 ty_78).1 ?_
        refine x_iload_n hC dX9_tick_33 (lm 1 rfl) ?_
        refine x_dup2 hC dX9_tick_34 rfl rfl ?_
        obtain ⟨ho, hp⟩ := hp
        refine s_iald hC dX9_tick_35 ((fr_9_34 ty_78).2) ho ?_
        refine x_iconst hC dX9_tick_36 ic_1 ?_
        refine x_iadd hC dX9_tick_37 ?_
        obtain ⟨ho, hp⟩ := hp
        refine s_iast hC dX9_tick_38 ((fr_9_34 ty_78).2) ho ?_
        refine x_aload_n hC dX9_tick_39 (lm 0 rfl) ?_
        refine s_getR (r := 106) hC dX9_tick_40 fk_9_92 ty_78 (fr_9_34 ty_78).1 ?_
        refine x_iload_n hC dX9_tick_43 (lm 1 rfl) ?_
        obtain ⟨ho, hp⟩ := hp
        refine s_iald hC dX9_tick_44 ((fr_9_34 ty_78).2) ho ?_
        refine x_aload_n hC dX9_tick_45 (lm 0 rfl) ?_
        refine s_getR (r := 102) hC dX9_tick_46 fk_9_80 ty_78 (fr_9_30 ty_78).1 ?_
        refine x_iload_n hC dX9_tick_49 (lm 1 rfl) ?_
        obtain ⟨ho, hp⟩ := hp
        refine s_iald hC dX9_tick_50 ((fr_9_30 ty_78).2) ho ?_
        refine x_icmp_ne (tgt := 69) hC dX9_tick_51 (by decide) (fun hc => ?_) (fun hc => ?_)
        · have hp := hp.1 hc
          exact x_vret hC hE dX9_tick_69 ⟨_, rfl, rfl, hp⟩
        · have hp := hp.2 hc
          refine x_aload_n hC dX9_tick_54 (lm 0 rfl) ?_
          refine x_iload_n hC dX9_tick_55 (lm 1 rfl) ?_
          refine x_aload_n hC dX9_tick_56 (lm 0 rfl) ?_
          refine x_iload_n hC dX9_tick_57 (lm 1 rfl) ?_
          refine s_callVi (avs := [.int i1]) (st := [.int i1, .ref 78]) hC dX9_tick_58 ml_9_287 mi_X9_firstHeld ty_78 rfl (t_X9_firstHeld  hp) (Nat.le_of_ble_eq_true rfl) ⟨rfl, rfl⟩ ⟨Nat.le_of_ble_eq_true rfl, Nat.le_of_ble_eq_true rfl⟩ (fun v_58 h_58 hp => ?_)
          refine s_callVv (avs := [.int i1, .int v_58]) (st := []) hC dX9_tick_61 ml_9_253 mi_X9_movesTo ty_78 rfl (t_X9_movesTo  hp) (Nat.le_of_ble_eq_true rfl) ⟨rfl, rfl⟩ ⟨Nat.le_of_ble_eq_true rfl, Nat.le_of_ble_eq_true rfl⟩ (fun h_61 hp => ?_)
          refine x_aload_n hC dX9_tick_64 (lm 0 rfl) ?_
          refine x_iload_n hC dX9_tick_65 (lm 1 rfl) ?_
          refine s_callVv (avs := [.int i1]) (st := []) hC dX9_tick_66 ml_9_256 mi_X9_goesOn ty_78 rfl (t_X9_goesOn  hp) (Nat.le_of_ble_eq_true rfl) ⟨rfl, rfl⟩ ⟨Nat.le_of_ble_eq_true rfl, Nat.le_of_ble_eq_true rfl⟩ (fun h_66 hp => ?_)
          exact x_vret hC hE dX9_tick_69 ⟨_, rfl, rfl, hp⟩
      · have hp := hp.2 hc
        exact x_vret hC hE dX9_tick_28 ⟨_, rfl, rfl, hp⟩
theorem dX9_pass_0 : decode cX9_pass 0 = .ok (.iload_n 1, 1) := by decide +kernel
theorem dX9_pass_1 : decode cX9_pass 1 = .ok (.iconst 1, 1) := by decide +kernel
theorem dX9_pass_2 : decode cX9_pass 2 = .ok (.bipush 60, 2) := by decide +kernel
theorem dX9_pass_4 : decode cX9_pass 4 = .ok (.invokestatic 123, 3) := by decide +kernel
theorem dX9_pass_7 : decode cX9_pass 7 = .ok (.ifCond .ne 6, 3) := by decide +kernel
theorem dX9_pass_10 : decode cX9_pass 10 = .ok (.bipush (-102), 2) := by decide +kernel
theorem dX9_pass_12 : decode cX9_pass 12 = .ok (.ireturn, 1) := by decide +kernel
theorem dX9_pass_13 : decode cX9_pass 13 = .ok (.aload_n 0, 1) := by decide +kernel
theorem dX9_pass_14 : decode cX9_pass 14 = .ok (.invokevirtual 160, 3) := by decide +kernel
theorem dX9_pass_17 : decode cX9_pass 17 = .ok (.ifCond .ne 6, 3) := by decide +kernel
theorem dX9_pass_20 : decode cX9_pass 20 = .ok (.bipush (-103), 2) := by decide +kernel
theorem dX9_pass_22 : decode cX9_pass 22 = .ok (.ireturn, 1) := by decide +kernel
theorem dX9_pass_23 : decode cX9_pass 23 = .ok (.iconst 0, 1) := by decide +kernel
theorem dX9_pass_24 : decode cX9_pass 24 = .ok (.istore_n 2, 1) := by decide +kernel
theorem dX9_pass_25 : decode cX9_pass 25 = .ok (.iload_n 2, 1) := by decide +kernel
theorem dX9_pass_26 : decode cX9_pass 26 = .ok (.iload_n 1, 1) := by decide +kernel
theorem dX9_pass_27 : decode cX9_pass 27 = .ok (.if_icmp .ge 37, 3) := by decide +kernel
theorem dX9_pass_30 : decode cX9_pass 30 = .ok (.aload_n 0, 1) := by decide +kernel
theorem dX9_pass_31 : decode cX9_pass 31 = .ok (.dup, 1) := by decide +kernel
theorem dX9_pass_32 : decode cX9_pass 32 = .ok (.getfield 151, 3) := by decide +kernel
theorem dX9_pass_35 : decode cX9_pass 35 = .ok (.iconst 1, 1) := by decide +kernel
theorem dX9_pass_36 : decode cX9_pass 36 = .ok (.iadd, 1) := by decide +kernel
theorem dX9_pass_37 : decode cX9_pass 37 = .ok (.putfield 151, 3) := by decide +kernel
theorem dX9_pass_40 : decode cX9_pass 40 = .ok (.iconst 0, 1) := by decide +kernel
theorem dX9_pass_41 : decode cX9_pass 41 = .ok (.istore_n 3, 1) := by decide +kernel
theorem dX9_pass_42 : decode cX9_pass 42 = .ok (.iload_n 3, 1) := by decide +kernel
theorem dX9_pass_43 : decode cX9_pass 43 = .ok (.iconst 4, 1) := by decide +kernel
theorem dX9_pass_44 : decode cX9_pass 44 = .ok (.if_icmp .ge 14, 3) := by decide +kernel
theorem dX9_pass_47 : decode cX9_pass 47 = .ok (.aload_n 0, 1) := by decide +kernel
theorem dX9_pass_48 : decode cX9_pass 48 = .ok (.iload_n 3, 1) := by decide +kernel
theorem dX9_pass_49 : decode cX9_pass 49 = .ok (.invokevirtual 290, 3) := by decide +kernel
theorem dX9_pass_52 : decode cX9_pass 52 = .ok (.iinc 3 1, 3) := by decide +kernel
theorem dX9_pass_55 : decode cX9_pass 55 = .ok (.goto (-13), 3) := by decide +kernel
theorem dX9_pass_58 : decode cX9_pass 58 = .ok (.iinc 2 1, 3) := by decide +kernel
theorem dX9_pass_61 : decode cX9_pass 61 = .ok (.goto (-36), 3) := by decide +kernel
theorem dX9_pass_64 : decode cX9_pass 64 = .ok (.aload_n 0, 1) := by decide +kernel
theorem dX9_pass_65 : decode cX9_pass 65 = .ok (.getfield 151, 3) := by decide +kernel
theorem dX9_pass_68 : decode cX9_pass 68 = .ok (.ireturn, 1) := by decide +kernel
abbrev rm_X9_pass : Room := { frames := 4, cells := 0, slots := 0, locals := 88 }
def P_X9_pass (i1 : Int32) (h : HP) (Q : Int32 → HP → Prop) : Prop := P_X9_within i1 1 60 h (fun (v_4 : Int32) (h_4 : HP) => ((¬ v_4 = 0) → (P_X9_isAir h_4 (fun (v_14 : Int32) (h_14 : HP) => ((¬ v_14 = 0) → (Lp2 (fun X_25 (i2_25 : Int32) (h_25 : HP) => ((i1 ≤ i2_25) → (Q (h_25.1 78 4) h_25)) ∧ ((¬ i1 ≤ i2_25) → (Lp2 (fun X_42 (i3_42 : Int32) (h_42 : HP) => ((4 ≤ i3_42) → (X_25 (i2_25 + 1) h_42)) ∧ ((¬ 4 ≤ i3_42) → (P_X9_tick i3_42 h_42 (fun (h_49 : HP) => X_42 (i3_42 + 1) h_49)))) 0 (si h_25 78 4 ((h_25.1 78 4) + 1))))) 0 h_14)) ∧ ((v_14 = 0) → (Q (-103) h_14))))) ∧ ((v_4 = 0) → (Q (-102) h_4)))
set_option maxHeartbeats 4000000 in
theorem t_X9_pass {i1 : Int32} {h : HP} {Q : Int32 → HP → Prop}  (hp : P_X9_pass i1 h Q) : MT yX9_pass cX9_pass 4 (some .int) rm_X9_pass [.ref 78, .int i1] gM SH (emb h) (pI Q) := by
  refine MT.of (by decide +kernel) (Nat.le_of_ble_eq_true rfl) (fun C hC hE => ?_)
  show SW C gM 0 [(0, .ref 78), (1, .int i1)] [] h
  unfold P_X9_pass at hp
  refine x_iload_n hC dX9_pass_0 (lm 1 rfl) ?_
  refine x_iconst hC dX9_pass_1 ic_1 ?_
  refine x_bipush hC dX9_pass_2 bp_60 ?_
  refine s_callSi (avs := [.int i1, .int 1, .int 60]) (st := []) hC dX9_pass_4 ml_9_123 ms_X9_within rfl (t_X9_within  hp) (Nat.le_of_ble_eq_true rfl) ⟨rfl, rfl⟩ ⟨Nat.le_of_ble_eq_true rfl, Nat.le_of_ble_eq_true rfl⟩ (fun v_4 h_4 hp => ?_)
  refine x_if_ne (tgt := 13) hC dX9_pass_7 (by decide) (fun hc => ?_) (fun hc => ?_)
  · have hp := hp.1 hc
    refine x_aload_n hC dX9_pass_13 (lm 0 rfl) ?_
    refine s_callVi (avs := []) (st := []) hC dX9_pass_14 ml_9_160 mi_X9_isAir ty_78 rfl (t_X9_isAir  hp) (Nat.le_of_ble_eq_true rfl) ⟨rfl, rfl⟩ ⟨Nat.le_of_ble_eq_true rfl, Nat.le_of_ble_eq_true rfl⟩ (fun v_14 h_14 hp => ?_)
    refine x_if_ne (tgt := 23) hC dX9_pass_17 (by decide) (fun hc => ?_) (fun hc => ?_)
    · have hp := hp.1 hc
      refine x_iconst hC dX9_pass_23 ic_0 ?_
      refine x_istore_n (lv' := [(2, .int 0), (0, .ref 78), (1, .int i1)]) hC dX9_pass_24 (by decide) rfl ?_
      refine x_subk (lv' := [(0, .ref 78), (1, .int i1), (2, .int 0)]) [1, 2, 0] rfl ?_
      refine hp (fun i2_25 h_25 => SW C gM 25 [(0, .ref 78), (1, .int i1), (2, .int i2_25)] [] h_25) (fun i2_25 h_25 hp => ?_)
      refine x_iload_n hC dX9_pass_25 (lm 2 rfl) ?_
      refine x_iload_n hC dX9_pass_26 (lm 1 rfl) ?_
      refine x_icmp_ge (tgt := 64) hC dX9_pass_27 (by decide) (fun hc => ?_) (fun hc => ?_)
      · have hp := hp.1 hc
        refine x_aload_n hC dX9_pass_64 (lm 0 rfl) ?_
        refine s_getI hC dX9_pass_65 fk_9_151 ty_78 ?_
        exact x_iret hC hE dX9_pass_68 ⟨_, _, rfl, rfl, hp⟩
      · have hp := hp.2 hc
        refine x_aload_n hC dX9_pass_30 (lm 0 rfl) ?_
        refine x_dup hC dX9_pass_31 rfl ?_
        refine s_getI hC dX9_pass_32 fk_9_151 ty_78 ?_
        refine x_iconst hC dX9_pass_35 ic_1 ?_
        refine x_iadd hC dX9_pass_36 ?_
        refine s_putI hC dX9_pass_37 fk_9_151 rfl rfl ty_78 ?_
        refine x_iconst hC dX9_pass_40 ic_0 ?_
        refine x_istore_n (lv' := [(3, .int 0), (0, .ref 78), (1, .int i1), (2, .int i2_25)]) hC dX9_pass_41 (by decide) rfl ?_
        refine x_subk (lv' := [(0, .ref 78), (1, .int i1), (2, .int i2_25), (3, .int 0)]) [1, 2, 3, 0] rfl ?_
        refine hp (fun i3_42 h_42 => SW C gM 42 [(0, .ref 78), (1, .int i1), (2, .int i2_25), (3, .int i3_42)] [] h_42) (fun i3_42 h_42 hp => ?_)
        refine x_iload_n hC dX9_pass_42 (lm 3 rfl) ?_
        refine x_iconst hC dX9_pass_43 ic_4 ?_
        refine x_icmp_ge (tgt := 58) hC dX9_pass_44 (by decide) (fun hc => ?_) (fun hc => ?_)
        · have hp := hp.1 hc
          refine x_iinc (u := i2_25 + 1) (lv' := [(2, .int (i2_25 + 1)), (0, .ref 78), (1, .int i1), (3, .int i3_42)]) hC dX9_pass_58 (lm 2 rfl) (congrArg _ ic_1) (by decide) rfl ?_
          refine x_goto (tgt := 25) hC dX9_pass_61 (by decide) ?_
          exact x_subk [1, 2, 0] rfl hp
        · have hp := hp.2 hc
          refine x_aload_n hC dX9_pass_47 (lm 0 rfl) ?_
          refine x_iload_n hC dX9_pass_48 (lm 3 rfl) ?_
          refine s_callVv (avs := [.int i3_42]) (st := []) hC dX9_pass_49 ml_9_290 mi_X9_tick ty_78 rfl (t_X9_tick  hp) (Nat.le_of_ble_eq_true rfl) ⟨rfl, rfl⟩ ⟨Nat.le_of_ble_eq_true rfl, Nat.le_of_ble_eq_true rfl⟩ (fun h_49 hp => ?_)
          refine x_iinc (u := i3_42 + 1) (lv' := [(3, .int (i3_42 + 1)), (0, .ref 78), (1, .int i1), (2, .int i2_25)]) hC dX9_pass_52 (lm 3 rfl) (congrArg _ ic_1) (by decide) rfl ?_
          refine x_goto (tgt := 42) hC dX9_pass_55 (by decide) ?_
          exact x_subk [1, 2, 3, 0] rfl hp
    · have hp := hp.2 hc
      refine x_bipush hC dX9_pass_20 bp_m103 ?_
      exact x_iret hC hE dX9_pass_22 ⟨_, _, rfl, rfl, hp⟩
  · have hp := hp.2 hc
    refine x_bipush hC dX9_pass_10 bp_m102 ?_
    exact x_iret hC hE dX9_pass_12 ⟨_, _, rfl, rfl, hp⟩
theorem dX9_aboutNow_0 : decode cX9_aboutNow 0 = .ok (.iload_n 1, 1) := by decide +kernel
theorem dX9_aboutNow_1 : decode cX9_aboutNow 1 = .ok (.tableswitch 77 0 5 #[39, 44, 49, 54, 59, 64], 39) := by decide +kernel
theorem dX9_aboutNow_40 : decode cX9_aboutNow 40 = .ok (.aload_n 0, 1) := by decide +kernel
theorem dX9_aboutNow_41 : decode cX9_aboutNow 41 = .ok (.getfield 139, 3) := by decide +kernel
theorem dX9_aboutNow_44 : decode cX9_aboutNow 44 = .ok (.ireturn, 1) := by decide +kernel
theorem dX9_aboutNow_45 : decode cX9_aboutNow 45 = .ok (.aload_n 0, 1) := by decide +kernel
theorem dX9_aboutNow_46 : decode cX9_aboutNow 46 = .ok (.getfield 142, 3) := by decide +kernel
theorem dX9_aboutNow_49 : decode cX9_aboutNow 49 = .ok (.ireturn, 1) := by decide +kernel
theorem dX9_aboutNow_50 : decode cX9_aboutNow 50 = .ok (.aload_n 0, 1) := by decide +kernel
theorem dX9_aboutNow_51 : decode cX9_aboutNow 51 = .ok (.getfield 145, 3) := by decide +kernel
theorem dX9_aboutNow_54 : decode cX9_aboutNow 54 = .ok (.ireturn, 1) := by decide +kernel
theorem dX9_aboutNow_55 : decode cX9_aboutNow 55 = .ok (.aload_n 0, 1) := by decide +kernel
theorem dX9_aboutNow_56 : decode cX9_aboutNow 56 = .ok (.getfield 148, 3) := by decide +kernel
theorem dX9_aboutNow_59 : decode cX9_aboutNow 59 = .ok (.ireturn, 1) := by decide +kernel
theorem dX9_aboutNow_60 : decode cX9_aboutNow 60 = .ok (.aload_n 0, 1) := by decide +kernel
theorem dX9_aboutNow_61 : decode cX9_aboutNow 61 = .ok (.getfield 151, 3) := by decide +kernel
theorem dX9_aboutNow_64 : decode cX9_aboutNow 64 = .ok (.ireturn, 1) := by decide +kernel
theorem dX9_aboutNow_65 : decode cX9_aboutNow 65 = .ok (.aload_n 0, 1) := by decide +kernel
theorem dX9_aboutNow_66 : decode cX9_aboutNow 66 = .ok (.invokevirtual 195, 3) := by decide +kernel
theorem dX9_aboutNow_69 : decode cX9_aboutNow 69 = .ok (.ifCond .le 7, 3) := by decide +kernel
theorem dX9_aboutNow_72 : decode cX9_aboutNow 72 = .ok (.iconst 1, 1) := by decide +kernel
theorem dX9_aboutNow_73 : decode cX9_aboutNow 73 = .ok (.goto 4, 3) := by decide +kernel
theorem dX9_aboutNow_76 : decode cX9_aboutNow 76 = .ok (.iconst 0, 1) := by decide +kernel
theorem dX9_aboutNow_77 : decode cX9_aboutNow 77 = .ok (.ireturn, 1) := by decide +kernel
theorem dX9_aboutNow_78 : decode cX9_aboutNow 78 = .ok (.aload_n 0, 1) := by decide +kernel
theorem dX9_aboutNow_79 : decode cX9_aboutNow 79 = .ok (.invokevirtual 195, 3) := by decide +kernel
theorem dX9_aboutNow_82 : decode cX9_aboutNow 82 = .ok (.ireturn, 1) := by decide +kernel
abbrev rm_X9_aboutNow : Room := { frames := 2, cells := 0, slots := 0, locals := 41 }
def P_X9_aboutNow (i1 : Int32) (h : HP) (Q : Int32 → HP → Prop) : Prop := (i1.toInt = 0 → (Q (h.1 78 0) h)) ∧ (i1.toInt = 1 → (Q (h.1 78 1) h)) ∧ (i1.toInt = 2 → (Q (h.1 78 2) h)) ∧ (i1.toInt = 3 → (Q (h.1 78 3) h)) ∧ (i1.toInt = 4 → (Q (h.1 78 4) h)) ∧ (i1.toInt = 5 → (P_X9_left h (fun (v_66 : Int32) (h_66 : HP) => ((v_66 ≤ 0) → Q 0 h_66) ∧ ((¬ v_66 ≤ 0) → Q 1 h_66)))) ∧ ((i1.toInt < 0 ∨ 5 < i1.toInt) → (P_X9_left h (fun (v_79 : Int32) (h_79 : HP) => Q v_79 h_79)))
set_option maxHeartbeats 4000000 in
theorem t_X9_aboutNow {i1 : Int32} {h : HP} {Q : Int32 → HP → Prop}  (hp : P_X9_aboutNow i1 h Q) : MT yX9_aboutNow cX9_aboutNow 2 (some .int) rm_X9_aboutNow [.ref 78, .int i1] gM SH (emb h) (pI Q) := by
  refine MT.of (by decide +kernel) (Nat.le_of_ble_eq_true rfl) (fun C hC hE => ?_)
  show SW C gM 0 [(0, .ref 78), (1, .int i1)] [] h
  unfold P_X9_aboutNow at hp
  refine x_iload_n hC dX9_aboutNow_0 (lm 1 rfl) ?_
  refine x_tsw (tgt := 78) hC dX9_aboutNow_1 [40, 45, 50, 55, 60, 65] (by decide) (by decide) (by decide) (fun hc => ?_) (fun i t hi hx => ?_)
  · have hp := hp.2.2.2.2.2.2 hc
    refine x_aload_n hC dX9_aboutNow_78 (lm 0 rfl) ?_
    refine s_callVi (avs := []) (st := []) hC dX9_aboutNow_79 ml_9_195 mi_X9_left ty_78 rfl (t_X9_left  hp) (Nat.le_of_ble_eq_true rfl) ⟨rfl, rfl⟩ ⟨Nat.le_of_ble_eq_true rfl, Nat.le_of_ble_eq_true rfl⟩ (fun v_79 h_79 hp => ?_)
    exact x_iret hC hE dX9_aboutNow_82 ⟨_, _, rfl, rfl, hp⟩
  · match i, hi, hx with
    | 0, hi, hx =>
      cases hi
      have hp := hp.1 hx
      refine x_aload_n hC dX9_aboutNow_40 (lm 0 rfl) ?_
      refine s_getI hC dX9_aboutNow_41 fk_9_139 ty_78 ?_
      exact x_iret hC hE dX9_aboutNow_44 ⟨_, _, rfl, rfl, hp⟩
    | 1, hi, hx =>
      cases hi
      have hp := hp.2.1 hx
      refine x_aload_n hC dX9_aboutNow_45 (lm 0 rfl) ?_
      refine s_getI hC dX9_aboutNow_46 fk_9_142 ty_78 ?_
      exact x_iret hC hE dX9_aboutNow_49 ⟨_, _, rfl, rfl, hp⟩
    | 2, hi, hx =>
      cases hi
      have hp := hp.2.2.1 hx
      refine x_aload_n hC dX9_aboutNow_50 (lm 0 rfl) ?_
      refine s_getI hC dX9_aboutNow_51 fk_9_145 ty_78 ?_
      exact x_iret hC hE dX9_aboutNow_54 ⟨_, _, rfl, rfl, hp⟩
    | 3, hi, hx =>
      cases hi
      have hp := hp.2.2.2.1 hx
      refine x_aload_n hC dX9_aboutNow_55 (lm 0 rfl) ?_
      refine s_getI hC dX9_aboutNow_56 fk_9_148 ty_78 ?_
      exact x_iret hC hE dX9_aboutNow_59 ⟨_, _, rfl, rfl, hp⟩
    | 4, hi, hx =>
      cases hi
      have hp := hp.2.2.2.2.1 hx
      refine x_aload_n hC dX9_aboutNow_60 (lm 0 rfl) ?_
      refine s_getI hC dX9_aboutNow_61 fk_9_151 ty_78 ?_
      exact x_iret hC hE dX9_aboutNow_64 ⟨_, _, rfl, rfl, hp⟩
    | 5, hi, hx =>
      cases hi
      have hp := hp.2.2.2.2.2.1 hx
      refine x_aload_n hC dX9_aboutNow_65 (lm 0 rfl) ?_
      refine s_callVi (avs := []) (st := []) hC dX9_aboutNow_66 ml_9_195 mi_X9_left ty_78 rfl (t_X9_left  hp) (Nat.le_of_ble_eq_true rfl) ⟨rfl, rfl⟩ ⟨Nat.le_of_ble_eq_true rfl, Nat.le_of_ble_eq_true rfl⟩ (fun v_66 h_66 hp => ?_)
      refine x_if_le (tgt := 76) hC dX9_aboutNow_69 (by decide) (fun hc => ?_) (fun hc => ?_)
      · have hp := hp.1 hc
        refine x_iconst hC dX9_aboutNow_76 ic_0 ?_
        exact x_iret hC hE dX9_aboutNow_77 ⟨_, _, rfl, rfl, hp⟩
      · have hp := hp.2 hc
        refine x_iconst hC dX9_aboutNow_72 ic_1 ?_
        refine x_goto (tgt := 77) hC dX9_aboutNow_73 (by decide) ?_
        exact x_iret hC hE dX9_aboutNow_77 ⟨_, _, rfl, rfl, hp⟩
    | i + 6, hi, hx => exact absurd hi (by simp)
theorem dX9_about_0 : decode cX9_about 0 = .ok (.iload_n 1, 1) := by decide +kernel
theorem dX9_about_1 : decode cX9_about 1 = .ok (.iconst 0, 1) := by decide +kernel
theorem dX9_about_2 : decode cX9_about 2 = .ok (.bipush 6, 2) := by decide +kernel
theorem dX9_about_4 : decode cX9_about 4 = .ok (.invokestatic 123, 3) := by decide +kernel
theorem dX9_about_7 : decode cX9_about 7 = .ok (.ifCond .ne 6, 3) := by decide +kernel
theorem dX9_about_10 : decode cX9_about 10 = .ok (.bipush (-102), 2) := by decide +kernel
theorem dX9_about_12 : decode cX9_about 12 = .ok (.ireturn, 1) := by decide +kernel
theorem dX9_about_13 : decode cX9_about 13 = .ok (.aload_n 0, 1) := by decide +kernel
theorem dX9_about_14 : decode cX9_about 14 = .ok (.invokevirtual 160, 3) := by decide +kernel
theorem dX9_about_17 : decode cX9_about 17 = .ok (.ifCond .eq 11, 3) := by decide +kernel
theorem dX9_about_20 : decode cX9_about 20 = .ok (.aload_n 0, 1) := by decide +kernel
theorem dX9_about_21 : decode cX9_about 21 = .ok (.iload_n 1, 1) := by decide +kernel
theorem dX9_about_22 : decode cX9_about 22 = .ok (.invokevirtual 293, 3) := by decide +kernel
theorem dX9_about_25 : decode cX9_about 25 = .ok (.goto 5, 3) := by decide +kernel
theorem dX9_about_28 : decode cX9_about 28 = .ok (.bipush (-103), 2) := by decide +kernel
theorem dX9_about_30 : decode cX9_about 30 = .ok (.ireturn, 1) := by decide +kernel
abbrev rm_X9_about : Room := { frames := 3, cells := 0, slots := 0, locals := 62 }
def P_X9_about (i1 : Int32) (h : HP) (Q : Int32 → HP → Prop) : Prop := P_X9_within i1 0 6 h (fun (v_4 : Int32) (h_4 : HP) => ((¬ v_4 = 0) → (P_X9_isAir h_4 (fun (v_14 : Int32) (h_14 : HP) => ((v_14 = 0) → (Q (-103) h_14)) ∧ ((¬ v_14 = 0) → (P_X9_aboutNow i1 h_14 (fun (v_22 : Int32) (h_22 : HP) => Q v_22 h_22)))))) ∧ ((v_4 = 0) → (Q (-102) h_4)))
set_option maxHeartbeats 4000000 in
theorem t_X9_about {i1 : Int32} {h : HP} {Q : Int32 → HP → Prop}  (hp : P_X9_about i1 h Q) : MT yX9_about cX9_about 2 (some .int) rm_X9_about [.ref 78, .int i1] gM SH (emb h) (pI Q) := by
  refine MT.of (by decide +kernel) (Nat.le_of_ble_eq_true rfl) (fun C hC hE => ?_)
  show SW C gM 0 [(0, .ref 78), (1, .int i1)] [] h
  unfold P_X9_about at hp
  refine x_iload_n hC dX9_about_0 (lm 1 rfl) ?_
  refine x_iconst hC dX9_about_1 ic_0 ?_
  refine x_bipush hC dX9_about_2 bp_6 ?_
  refine s_callSi (avs := [.int i1, .int 0, .int 6]) (st := []) hC dX9_about_4 ml_9_123 ms_X9_within rfl (t_X9_within  hp) (Nat.le_of_ble_eq_true rfl) ⟨rfl, rfl⟩ ⟨Nat.le_of_ble_eq_true rfl, Nat.le_of_ble_eq_true rfl⟩ (fun v_4 h_4 hp => ?_)
  refine x_if_ne (tgt := 13) hC dX9_about_7 (by decide) (fun hc => ?_) (fun hc => ?_)
  · have hp := hp.1 hc
    refine x_aload_n hC dX9_about_13 (lm 0 rfl) ?_
    refine s_callVi (avs := []) (st := []) hC dX9_about_14 ml_9_160 mi_X9_isAir ty_78 rfl (t_X9_isAir  hp) (Nat.le_of_ble_eq_true rfl) ⟨rfl, rfl⟩ ⟨Nat.le_of_ble_eq_true rfl, Nat.le_of_ble_eq_true rfl⟩ (fun v_14 h_14 hp => ?_)
    refine x_if_eq (tgt := 28) hC dX9_about_17 (by decide) (fun hc => ?_) (fun hc => ?_)
    · have hp := hp.1 hc
      refine x_bipush hC dX9_about_28 bp_m103 ?_
      exact x_iret hC hE dX9_about_30 ⟨_, _, rfl, rfl, hp⟩
    · have hp := hp.2 hc
      refine x_aload_n hC dX9_about_20 (lm 0 rfl) ?_
      refine x_iload_n hC dX9_about_21 (lm 1 rfl) ?_
      refine s_callVi (avs := [.int i1]) (st := []) hC dX9_about_22 ml_9_293 mi_X9_aboutNow ty_78 rfl (t_X9_aboutNow  hp) (Nat.le_of_ble_eq_true rfl) ⟨rfl, rfl⟩ ⟨Nat.le_of_ble_eq_true rfl, Nat.le_of_ble_eq_true rfl⟩ (fun v_22 h_22 hp => ?_)
      refine x_goto (tgt := 30) hC dX9_about_25 (by decide) ?_
      exact x_iret hC hE dX9_about_30 ⟨_, _, rfl, rfl, hp⟩
  · have hp := hp.2 hc
    refine x_bipush hC dX9_about_10 bp_m102 ?_
    exact x_iret hC hE dX9_about_12 ⟨_, _, rfl, rfl, hp⟩
theorem dX9_nearNow_0 : decode cX9_nearNow 0 = .ok (.iload_n 2, 1) := by decide +kernel
theorem dX9_nearNow_1 : decode cX9_nearNow 1 = .ok (.ifCond .ne 10, 3) := by decide +kernel
theorem dX9_nearNow_4 : decode cX9_nearNow 4 = .ok (.aload_n 0, 1) := by decide +kernel
theorem dX9_nearNow_5 : decode cX9_nearNow 5 = .ok (.getfield 16, 3) := by decide +kernel
theorem dX9_nearNow_8 : decode cX9_nearNow 8 = .ok (.iload_n 1, 1) := by decide +kernel
theorem dX9_nearNow_9 : decode cX9_nearNow 9 = .ok (.iaload, 1) := by decide +kernel
theorem dX9_nearNow_10 : decode cX9_nearNow 10 = .ok (.ireturn, 1) := by decide +kernel
theorem dX9_nearNow_11 : decode cX9_nearNow 11 = .ok (.aload_n 0, 1) := by decide +kernel
theorem dX9_nearNow_12 : decode cX9_nearNow 12 = .ok (.iload_n 1, 1) := by decide +kernel
theorem dX9_nearNow_13 : decode cX9_nearNow 13 = .ok (.invokevirtual 182, 3) := by decide +kernel
theorem dX9_nearNow_16 : decode cX9_nearNow 16 = .ok (.ifCond .ne 5, 3) := by decide +kernel
theorem dX9_nearNow_19 : decode cX9_nearNow 19 = .ok (.iconst (-1), 1) := by decide +kernel
theorem dX9_nearNow_20 : decode cX9_nearNow 20 = .ok (.ireturn, 1) := by decide +kernel
theorem dX9_nearNow_21 : decode cX9_nearNow 21 = .ok (.iload_n 2, 1) := by decide +kernel
theorem dX9_nearNow_22 : decode cX9_nearNow 22 = .ok (.tableswitch 117 1 8 #[46, 53, 60, 67, 74, 81, 87, 102], 46) := by decide +kernel
theorem dX9_nearNow_68 : decode cX9_nearNow 68 = .ok (.aload_n 0, 1) := by decide +kernel
theorem dX9_nearNow_69 : decode cX9_nearNow 69 = .ok (.getfield 22, 3) := by decide +kernel
theorem dX9_nearNow_72 : decode cX9_nearNow 72 = .ok (.iload_n 1, 1) := by decide +kernel
theorem dX9_nearNow_73 : decode cX9_nearNow 73 = .ok (.iaload, 1) := by decide +kernel
theorem dX9_nearNow_74 : decode cX9_nearNow 74 = .ok (.ireturn, 1) := by decide +kernel
theorem dX9_nearNow_75 : decode cX9_nearNow 75 = .ok (.aload_n 0, 1) := by decide +kernel
theorem dX9_nearNow_76 : decode cX9_nearNow 76 = .ok (.getfield 25, 3) := by decide +kernel
theorem dX9_nearNow_79 : decode cX9_nearNow 79 = .ok (.iload_n 1, 1) := by decide +kernel
theorem dX9_nearNow_80 : decode cX9_nearNow 80 = .ok (.iaload, 1) := by decide +kernel
theorem dX9_nearNow_81 : decode cX9_nearNow 81 = .ok (.ireturn, 1) := by decide +kernel
theorem dX9_nearNow_82 : decode cX9_nearNow 82 = .ok (.aload_n 0, 1) := by decide +kernel
theorem dX9_nearNow_83 : decode cX9_nearNow 83 = .ok (.getfield 31, 3) := by decide +kernel
theorem dX9_nearNow_86 : decode cX9_nearNow 86 = .ok (.iload_n 1, 1) := by decide +kernel
theorem dX9_nearNow_87 : decode cX9_nearNow 87 = .ok (.iaload, 1) := by decide +kernel
theorem dX9_nearNow_88 : decode cX9_nearNow 88 = .ok (.ireturn, 1) := by decide +kernel
theorem dX9_nearNow_89 : decode cX9_nearNow 89 = .ok (.aload_n 0, 1) := by decide +kernel
theorem dX9_nearNow_90 : decode cX9_nearNow 90 = .ok (.getfield 34, 3) := by decide +kernel
theorem dX9_nearNow_93 : decode cX9_nearNow 93 = .ok (.iload_n 1, 1) := by decide +kernel
theorem dX9_nearNow_94 : decode cX9_nearNow 94 = .ok (.iaload, 1) := by decide +kernel
theorem dX9_nearNow_95 : decode cX9_nearNow 95 = .ok (.ireturn, 1) := by decide +kernel
theorem dX9_nearNow_96 : decode cX9_nearNow 96 = .ok (.aload_n 0, 1) := by decide +kernel
theorem dX9_nearNow_97 : decode cX9_nearNow 97 = .ok (.getfield 50, 3) := by decide +kernel
theorem dX9_nearNow_100 : decode cX9_nearNow 100 = .ok (.iload_n 1, 1) := by decide +kernel
theorem dX9_nearNow_101 : decode cX9_nearNow 101 = .ok (.iaload, 1) := by decide +kernel
theorem dX9_nearNow_102 : decode cX9_nearNow 102 = .ok (.ireturn, 1) := by decide +kernel
theorem dX9_nearNow_103 : decode cX9_nearNow 103 = .ok (.aload_n 0, 1) := by decide +kernel
theorem dX9_nearNow_104 : decode cX9_nearNow 104 = .ok (.iload_n 1, 1) := by decide +kernel
theorem dX9_nearNow_105 : decode cX9_nearNow 105 = .ok (.invokevirtual 185, 3) := by decide +kernel
theorem dX9_nearNow_108 : decode cX9_nearNow 108 = .ok (.ireturn, 1) := by decide +kernel
theorem dX9_nearNow_109 : decode cX9_nearNow 109 = .ok (.aload_n 0, 1) := by decide +kernel
theorem dX9_nearNow_110 : decode cX9_nearNow 110 = .ok (.getfield 37, 3) := by decide +kernel
theorem dX9_nearNow_113 : decode cX9_nearNow 113 = .ok (.iload_n 1, 1) := by decide +kernel
theorem dX9_nearNow_114 : decode cX9_nearNow 114 = .ok (.baload, 1) := by decide +kernel
theorem dX9_nearNow_115 : decode cX9_nearNow 115 = .ok (.ifCond .eq 7, 3) := by decide +kernel
theorem dX9_nearNow_118 : decode cX9_nearNow 118 = .ok (.iconst 1, 1) := by decide +kernel
theorem dX9_nearNow_119 : decode cX9_nearNow 119 = .ok (.goto 4, 3) := by decide +kernel
theorem dX9_nearNow_122 : decode cX9_nearNow 122 = .ok (.iconst 0, 1) := by decide +kernel
theorem dX9_nearNow_123 : decode cX9_nearNow 123 = .ok (.ireturn, 1) := by decide +kernel
theorem dX9_nearNow_124 : decode cX9_nearNow 124 = .ok (.aload_n 0, 1) := by decide +kernel
theorem dX9_nearNow_125 : decode cX9_nearNow 125 = .ok (.getfield 41, 3) := by decide +kernel
theorem dX9_nearNow_128 : decode cX9_nearNow 128 = .ok (.iload_n 1, 1) := by decide +kernel
theorem dX9_nearNow_129 : decode cX9_nearNow 129 = .ok (.baload, 1) := by decide +kernel
theorem dX9_nearNow_130 : decode cX9_nearNow 130 = .ok (.ifCond .eq 7, 3) := by decide +kernel
theorem dX9_nearNow_133 : decode cX9_nearNow 133 = .ok (.iconst 1, 1) := by decide +kernel
theorem dX9_nearNow_134 : decode cX9_nearNow 134 = .ok (.goto 4, 3) := by decide +kernel
theorem dX9_nearNow_137 : decode cX9_nearNow 137 = .ok (.iconst 0, 1) := by decide +kernel
theorem dX9_nearNow_138 : decode cX9_nearNow 138 = .ok (.ireturn, 1) := by decide +kernel
theorem dX9_nearNow_139 : decode cX9_nearNow 139 = .ok (.aload_n 0, 1) := by decide +kernel
theorem dX9_nearNow_140 : decode cX9_nearNow 140 = .ok (.getfield 47, 3) := by decide +kernel
theorem dX9_nearNow_143 : decode cX9_nearNow 143 = .ok (.iload_n 1, 1) := by decide +kernel
theorem dX9_nearNow_144 : decode cX9_nearNow 144 = .ok (.iaload, 1) := by decide +kernel
theorem dX9_nearNow_145 : decode cX9_nearNow 145 = .ok (.ireturn, 1) := by decide +kernel
abbrev rm_X9_nearNow : Room := { frames := 2, cells := 0, slots := 0, locals := 44 }
def P_X9_nearNow (i1 : Int32) (i2 : Int32) (h : HP) (Q : Int32 → HP → Prop) : Prop := ((¬ i2 = 0) → (P_X9_isOpen i1 h (fun (v_13 : Int32) (h_13 : HP) => ((¬ v_13 = 0) → ((i2.toInt = 1 → ((vp_in i1 4) ∧ (Q (h_13.1 83 i1.toNatClampNeg) h_13))) ∧ (i2.toInt = 2 → ((vp_in i1 4) ∧ (Q (h_13.1 84 i1.toNatClampNeg) h_13))) ∧ (i2.toInt = 3 → ((vp_in i1 4) ∧ (Q (h_13.1 86 i1.toNatClampNeg) h_13))) ∧ (i2.toInt = 4 → ((vp_in i1 4) ∧ (Q (h_13.1 87 i1.toNatClampNeg) h_13))) ∧ (i2.toInt = 5 → ((vp_in i1 4) ∧ (Q (h_13.1 92 i1.toNatClampNeg) h_13))) ∧ (i2.toInt = 6 → (P_X9_notDone i1 h_13 (fun (v_105 : Int32) (h_105 : HP) => Q v_105 h_105))) ∧ (i2.toInt = 7 → ((vp_in i1 4) ∧ ((((h_13.1 88 i1.toNatClampNeg) = 0) → Q 0 h_13) ∧ ((¬ (h_13.1 88 i1.toNatClampNeg) = 0) → Q 1 h_13)))) ∧ (i2.toInt = 8 → ((vp_in i1 4) ∧ ((((h_13.1 89 i1.toNatClampNeg) = 0) → Q 0 h_13) ∧ ((¬ (h_13.1 89 i1.toNatClampNeg) = 0) → Q 1 h_13)))) ∧ ((i2.toInt < 1 ∨ 8 < i2.toInt) → ((vp_in i1 4) ∧ (Q (h_13.1 91 i1.toNatClampNeg) h_13))))) ∧ ((v_13 = 0) → (Q (-1) h_13))))) ∧ ((i2 = 0) → ((vp_in i1 4) ∧ (Q (h.1 81 i1.toNatClampNeg) h)))
set_option maxHeartbeats 4000000 in
theorem t_X9_nearNow {i1 : Int32} {i2 : Int32} {h : HP} {Q : Int32 → HP → Prop}  (hp : P_X9_nearNow i1 i2 h Q) : MT yX9_nearNow cX9_nearNow 3 (some .int) rm_X9_nearNow [.ref 78, .int i1, .int i2] gM SH (emb h) (pI Q) := by
  refine MT.of (by decide +kernel) (Nat.le_of_ble_eq_true rfl) (fun C hC hE => ?_)
  show SW C gM 0 [(0, .ref 78), (1, .int i1), (2, .int i2)] [] h
  unfold P_X9_nearNow at hp
  refine x_iload_n hC dX9_nearNow_0 (lm 2 rfl) ?_
  refine x_if_ne (tgt := 11) hC dX9_nearNow_1 (by decide) (fun hc => ?_) (fun hc => ?_)
  · have hp := hp.1 hc
    refine x_aload_n hC dX9_nearNow_11 (lm 0 rfl) ?_
    refine x_iload_n hC dX9_nearNow_12 (lm 1 rfl) ?_
    refine s_callVi (avs := [.int i1]) (st := []) hC dX9_nearNow_13 ml_9_182 mi_X9_isOpen ty_78 rfl (t_X9_isOpen  hp) (Nat.le_of_ble_eq_true rfl) ⟨rfl, rfl⟩ ⟨Nat.le_of_ble_eq_true rfl, Nat.le_of_ble_eq_true rfl⟩ (fun v_13 h_13 hp => ?_)
    refine x_if_ne (tgt := 21) hC dX9_nearNow_16 (by decide) (fun hc => ?_) (fun hc => ?_)
    · have hp := hp.1 hc
      refine x_iload_n hC dX9_nearNow_21 (lm 2 rfl) ?_
      refine x_tsw (tgt := 139) hC dX9_nearNow_22 [68, 75, 82, 89, 96, 103, 109, 124] (by decide) (by decide) (by decide) (fun hc => ?_) (fun i t hi hx => ?_)
      · have hp := hp.2.2.2.2.2.2.2.2 hc
        refine x_aload_n hC dX9_nearNow_139 (lm 0 rfl) ?_
        refine s_getR (r := 91) hC dX9_nearNow_140 fk_9_47 ty_78 (fr_9_19 ty_78).1 ?_
        refine x_iload_n hC dX9_nearNow_143 (lm 1 rfl) ?_
        obtain ⟨ho, hp⟩ := hp
        refine s_iald hC dX9_nearNow_144 ((fr_9_19 ty_78).2) ho ?_
        exact x_iret hC hE dX9_nearNow_145 ⟨_, _, rfl, rfl, hp⟩
      · match i, hi, hx with
        | 0, hi, hx =>
          cases hi
          have hp := hp.1 hx
          refine x_aload_n hC dX9_nearNow_68 (lm 0 rfl) ?_
          refine s_getR (r := 83) hC dX9_nearNow_69 fk_9_22 ty_78 (fr_9_11 ty_78).1 ?_
          refine x_iload_n hC dX9_nearNow_72 (lm 1 rfl) ?_
          obtain ⟨ho, hp⟩ := hp
          refine s_iald hC dX9_nearNow_73 ((fr_9_11 ty_78).2) ho ?_
          exact x_iret hC hE dX9_nearNow_74 ⟨_, _, rfl, rfl, hp⟩
        | 1, hi, hx =>
          cases hi
          have hp := hp.2.1 hx
          refine x_aload_n hC dX9_nearNow_75 (lm 0 rfl) ?_
          refine s_getR (r := 84) hC dX9_nearNow_76 fk_9_25 ty_78 (fr_9_12 ty_78).1 ?_
          refine x_iload_n hC dX9_nearNow_79 (lm 1 rfl) ?_
          obtain ⟨ho, hp⟩ := hp
          refine s_iald hC dX9_nearNow_80 ((fr_9_12 ty_78).2) ho ?_
          exact x_iret hC hE dX9_nearNow_81 ⟨_, _, rfl, rfl, hp⟩
        | 2, hi, hx =>
          cases hi
          have hp := hp.2.2.1 hx
          refine x_aload_n hC dX9_nearNow_82 (lm 0 rfl) ?_
          refine s_getR (r := 86) hC dX9_nearNow_83 fk_9_31 ty_78 (fr_9_14 ty_78).1 ?_
          refine x_iload_n hC dX9_nearNow_86 (lm 1 rfl) ?_
          obtain ⟨ho, hp⟩ := hp
          refine s_iald hC dX9_nearNow_87 ((fr_9_14 ty_78).2) ho ?_
          exact x_iret hC hE dX9_nearNow_88 ⟨_, _, rfl, rfl, hp⟩
        | 3, hi, hx =>
          cases hi
          have hp := hp.2.2.2.1 hx
          refine x_aload_n hC dX9_nearNow_89 (lm 0 rfl) ?_
          refine s_getR (r := 87) hC dX9_nearNow_90 fk_9_34 ty_78 (fr_9_15 ty_78).1 ?_
          refine x_iload_n hC dX9_nearNow_93 (lm 1 rfl) ?_
          obtain ⟨ho, hp⟩ := hp
          refine s_iald hC dX9_nearNow_94 ((fr_9_15 ty_78).2) ho ?_
          exact x_iret hC hE dX9_nearNow_95 ⟨_, _, rfl, rfl, hp⟩
        | 4, hi, hx =>
          cases hi
          have hp := hp.2.2.2.2.1 hx
          refine x_aload_n hC dX9_nearNow_96 (lm 0 rfl) ?_
          refine s_getR (r := 92) hC dX9_nearNow_97 fk_9_50 ty_78 (fr_9_20 ty_78).1 ?_
          refine x_iload_n hC dX9_nearNow_100 (lm 1 rfl) ?_
          obtain ⟨ho, hp⟩ := hp
          refine s_iald hC dX9_nearNow_101 ((fr_9_20 ty_78).2) ho ?_
          exact x_iret hC hE dX9_nearNow_102 ⟨_, _, rfl, rfl, hp⟩
        | 5, hi, hx =>
          cases hi
          have hp := hp.2.2.2.2.2.1 hx
          refine x_aload_n hC dX9_nearNow_103 (lm 0 rfl) ?_
          refine x_iload_n hC dX9_nearNow_104 (lm 1 rfl) ?_
          refine s_callVi (avs := [.int i1]) (st := []) hC dX9_nearNow_105 ml_9_185 mi_X9_notDone ty_78 rfl (t_X9_notDone  hp) (Nat.le_of_ble_eq_true rfl) ⟨rfl, rfl⟩ ⟨Nat.le_of_ble_eq_true rfl, Nat.le_of_ble_eq_true rfl⟩ (fun v_105 h_105 hp => ?_)
          exact x_iret hC hE dX9_nearNow_108 ⟨_, _, rfl, rfl, hp⟩
        | 6, hi, hx =>
          cases hi
          have hp := hp.2.2.2.2.2.2.1 hx
          refine x_aload_n hC dX9_nearNow_109 (lm 0 rfl) ?_
          refine s_getR (r := 88) hC dX9_nearNow_110 fk_9_37 ty_78 (fr_9_16 ty_78).1 ?_
          refine x_iload_n hC dX9_nearNow_113 (lm 1 rfl) ?_
          obtain ⟨ho, hp⟩ := hp
          refine s_zald hC dX9_nearNow_114 ((fr_9_16 ty_78).2) ho ?_
          refine x_if_eq (tgt := 122) hC dX9_nearNow_115 (by decide) (fun hc => ?_) (fun hc => ?_)
          · have hp := hp.1 hc
            refine x_iconst hC dX9_nearNow_122 ic_0 ?_
            exact x_iret hC hE dX9_nearNow_123 ⟨_, _, rfl, rfl, hp⟩
          · have hp := hp.2 hc
            refine x_iconst hC dX9_nearNow_118 ic_1 ?_
            refine x_goto (tgt := 123) hC dX9_nearNow_119 (by decide) ?_
            exact x_iret hC hE dX9_nearNow_123 ⟨_, _, rfl, rfl, hp⟩
        | 7, hi, hx =>
          cases hi
          have hp := hp.2.2.2.2.2.2.2.1 hx
          refine x_aload_n hC dX9_nearNow_124 (lm 0 rfl) ?_
          refine s_getR (r := 89) hC dX9_nearNow_125 fk_9_41 ty_78 (fr_9_17 ty_78).1 ?_
          refine x_iload_n hC dX9_nearNow_128 (lm 1 rfl) ?_
          obtain ⟨ho, hp⟩ := hp
          refine s_zald hC dX9_nearNow_129 ((fr_9_17 ty_78).2) ho ?_
          refine x_if_eq (tgt := 137) hC dX9_nearNow_130 (by decide) (fun hc => ?_) (fun hc => ?_)
          · have hp := hp.1 hc
            refine x_iconst hC dX9_nearNow_137 ic_0 ?_
            exact x_iret hC hE dX9_nearNow_138 ⟨_, _, rfl, rfl, hp⟩
          · have hp := hp.2 hc
            refine x_iconst hC dX9_nearNow_133 ic_1 ?_
            refine x_goto (tgt := 138) hC dX9_nearNow_134 (by decide) ?_
            exact x_iret hC hE dX9_nearNow_138 ⟨_, _, rfl, rfl, hp⟩
        | i + 8, hi, hx => exact absurd hi (by simp)
    · have hp := hp.2 hc
      refine x_iconst hC dX9_nearNow_19 ic_m1 ?_
      exact x_iret hC hE dX9_nearNow_20 ⟨_, _, rfl, rfl, hp⟩
  · have hp := hp.2 hc
    refine x_aload_n hC dX9_nearNow_4 (lm 0 rfl) ?_
    refine s_getR (r := 81) hC dX9_nearNow_5 fk_9_16 ty_78 (fr_9_9 ty_78).1 ?_
    refine x_iload_n hC dX9_nearNow_8 (lm 1 rfl) ?_
    obtain ⟨ho, hp⟩ := hp
    refine s_iald hC dX9_nearNow_9 ((fr_9_9 ty_78).2) ho ?_
    exact x_iret hC hE dX9_nearNow_10 ⟨_, _, rfl, rfl, hp⟩
theorem dX9_near_0 : decode cX9_near 0 = .ok (.aload_n 0, 1) := by decide +kernel
theorem dX9_near_1 : decode cX9_near 1 = .ok (.iload_n 1, 1) := by decide +kernel
theorem dX9_near_2 : decode cX9_near 2 = .ok (.invokevirtual 171, 3) := by decide +kernel
theorem dX9_near_5 : decode cX9_near 5 = .ok (.ifCond .ne 8, 3) := by decide +kernel
theorem dX9_near_8 : decode cX9_near 8 = .ok (.bipush (-101), 2) := by decide +kernel
theorem dX9_near_10 : decode cX9_near 10 = .ok (.goto 24, 3) := by decide +kernel
theorem dX9_near_13 : decode cX9_near 13 = .ok (.iload_n 2, 1) := by decide +kernel
theorem dX9_near_14 : decode cX9_near 14 = .ok (.iconst 0, 1) := by decide +kernel
theorem dX9_near_15 : decode cX9_near 15 = .ok (.bipush 9, 2) := by decide +kernel
theorem dX9_near_17 : decode cX9_near 17 = .ok (.invokestatic 123, 3) := by decide +kernel
theorem dX9_near_20 : decode cX9_near 20 = .ok (.ifCond .eq 12, 3) := by decide +kernel
theorem dX9_near_23 : decode cX9_near 23 = .ok (.aload_n 0, 1) := by decide +kernel
theorem dX9_near_24 : decode cX9_near 24 = .ok (.iload_n 1, 1) := by decide +kernel
theorem dX9_near_25 : decode cX9_near 25 = .ok (.iload_n 2, 1) := by decide +kernel
theorem dX9_near_26 : decode cX9_near 26 = .ok (.invokevirtual 296, 3) := by decide +kernel
theorem dX9_near_29 : decode cX9_near 29 = .ok (.goto 5, 3) := by decide +kernel
theorem dX9_near_32 : decode cX9_near 32 = .ok (.bipush (-102), 2) := by decide +kernel
theorem dX9_near_34 : decode cX9_near 34 = .ok (.ireturn, 1) := by decide +kernel
abbrev rm_X9_near : Room := { frames := 3, cells := 0, slots := 0, locals := 66 }
def P_X9_near (i1 : Int32) (i2 : Int32) (h : HP) (Q : Int32 → HP → Prop) : Prop := P_X9_isClass i1 h (fun (v_2 : Int32) (h_2 : HP) => ((¬ v_2 = 0) → (P_X9_within i2 0 9 h_2 (fun (v_17 : Int32) (h_17 : HP) => ((v_17 = 0) → (Q (-102) h_17)) ∧ ((¬ v_17 = 0) → (P_X9_nearNow i1 i2 h_17 (fun (v_26 : Int32) (h_26 : HP) => Q v_26 h_26)))))) ∧ ((v_2 = 0) → (Q (-101) h_2)))
set_option maxHeartbeats 4000000 in
theorem t_X9_near {i1 : Int32} {i2 : Int32} {h : HP} {Q : Int32 → HP → Prop}  (hp : P_X9_near i1 i2 h Q) : MT yX9_near cX9_near 3 (some .int) rm_X9_near [.ref 78, .int i1, .int i2] gM SH (emb h) (pI Q) := by
  refine MT.of (by decide +kernel) (Nat.le_of_ble_eq_true rfl) (fun C hC hE => ?_)
  show SW C gM 0 [(0, .ref 78), (1, .int i1), (2, .int i2)] [] h
  unfold P_X9_near at hp
  refine x_aload_n hC dX9_near_0 (lm 0 rfl) ?_
  refine x_iload_n hC dX9_near_1 (lm 1 rfl) ?_
  refine s_callVi (avs := [.int i1]) (st := []) hC dX9_near_2 ml_9_171 mi_X9_isClass ty_78 rfl (t_X9_isClass  hp) (Nat.le_of_ble_eq_true rfl) ⟨rfl, rfl⟩ ⟨Nat.le_of_ble_eq_true rfl, Nat.le_of_ble_eq_true rfl⟩ (fun v_2 h_2 hp => ?_)
  refine x_if_ne (tgt := 13) hC dX9_near_5 (by decide) (fun hc => ?_) (fun hc => ?_)
  · have hp := hp.1 hc
    refine x_iload_n hC dX9_near_13 (lm 2 rfl) ?_
    refine x_iconst hC dX9_near_14 ic_0 ?_
    refine x_bipush hC dX9_near_15 bp_9 ?_
    refine s_callSi (avs := [.int i2, .int 0, .int 9]) (st := []) hC dX9_near_17 ml_9_123 ms_X9_within rfl (t_X9_within  hp) (Nat.le_of_ble_eq_true rfl) ⟨rfl, rfl⟩ ⟨Nat.le_of_ble_eq_true rfl, Nat.le_of_ble_eq_true rfl⟩ (fun v_17 h_17 hp => ?_)
    refine x_if_eq (tgt := 32) hC dX9_near_20 (by decide) (fun hc => ?_) (fun hc => ?_)
    · have hp := hp.1 hc
      refine x_bipush hC dX9_near_32 bp_m102 ?_
      exact x_iret hC hE dX9_near_34 ⟨_, _, rfl, rfl, hp⟩
    · have hp := hp.2 hc
      refine x_aload_n hC dX9_near_23 (lm 0 rfl) ?_
      refine x_iload_n hC dX9_near_24 (lm 1 rfl) ?_
      refine x_iload_n hC dX9_near_25 (lm 2 rfl) ?_
      refine s_callVi (avs := [.int i1, .int i2]) (st := []) hC dX9_near_26 ml_9_296 mi_X9_nearNow ty_78 rfl (t_X9_nearNow  hp) (Nat.le_of_ble_eq_true rfl) ⟨rfl, rfl⟩ ⟨Nat.le_of_ble_eq_true rfl, Nat.le_of_ble_eq_true rfl⟩ (fun v_26 h_26 hp => ?_)
      refine x_goto (tgt := 34) hC dX9_near_29 (by decide) ?_
      exact x_iret hC hE dX9_near_34 ⟨_, _, rfl, rfl, hp⟩
  · have hp := hp.2 hc
    refine x_bipush hC dX9_near_8 bp_m101 ?_
    refine x_goto (tgt := 34) hC dX9_near_10 (by decide) ?_
    exact x_iret hC hE dX9_near_34 ⟨_, _, rfl, rfl, hp⟩
theorem dX9_givenNow_0 : decode cX9_givenNow 0 = .ok (.aload_n 0, 1) := by decide +kernel
theorem dX9_givenNow_1 : decode cX9_givenNow 1 = .ok (.getfield 31, 3) := by decide +kernel
theorem dX9_givenNow_4 : decode cX9_givenNow 4 = .ok (.iload_n 1, 1) := by decide +kernel
theorem dX9_givenNow_5 : decode cX9_givenNow 5 = .ok (.iaload, 1) := by decide +kernel
theorem dX9_givenNow_6 : decode cX9_givenNow 6 = .ok (.iload_n 2, 1) := by decide +kernel
theorem dX9_givenNow_7 : decode cX9_givenNow 7 = .ok (.iadd, 1) := by decide +kernel
theorem dX9_givenNow_8 : decode cX9_givenNow 8 = .ok (.bipush 64, 2) := by decide +kernel
theorem dX9_givenNow_10 : decode cX9_givenNow 10 = .ok (.irem, 1) := by decide +kernel
theorem dX9_givenNow_11 : decode cX9_givenNow 11 = .ok (.istore 4, 2) := by decide +kernel
theorem dX9_givenNow_13 : decode cX9_givenNow 13 = .ok (.bipush 64, 2) := by decide +kernel
theorem dX9_givenNow_15 : decode cX9_givenNow 15 = .ok (.iload_n 1, 1) := by decide +kernel
theorem dX9_givenNow_16 : decode cX9_givenNow 16 = .ok (.imul, 1) := by decide +kernel
theorem dX9_givenNow_17 : decode cX9_givenNow 17 = .ok (.iload 4, 2) := by decide +kernel
theorem dX9_givenNow_19 : decode cX9_givenNow 19 = .ok (.iadd, 1) := by decide +kernel
theorem dX9_givenNow_20 : decode cX9_givenNow 20 = .ok (.istore 5, 2) := by decide +kernel
theorem dX9_givenNow_22 : decode cX9_givenNow 22 = .ok (.iload_n 3, 1) := by decide +kernel
theorem dX9_givenNow_23 : decode cX9_givenNow 23 = .ok (.ifCond .ne 8, 3) := by decide +kernel
theorem dX9_givenNow_26 : decode cX9_givenNow 26 = .ok (.iload 4, 2) := by decide +kernel
theorem dX9_givenNow_28 : decode cX9_givenNow 28 = .ok (.goto 63, 3) := by decide +kernel
theorem dX9_givenNow_31 : decode cX9_givenNow 31 = .ok (.iload_n 3, 1) := by decide +kernel
theorem dX9_givenNow_32 : decode cX9_givenNow 32 = .ok (.iconst 1, 1) := by decide +kernel
theorem dX9_givenNow_33 : decode cX9_givenNow 33 = .ok (.if_icmp .ne 13, 3) := by decide +kernel
theorem dX9_givenNow_36 : decode cX9_givenNow 36 = .ok (.aload_n 0, 1) := by decide +kernel
theorem dX9_givenNow_37 : decode cX9_givenNow 37 = .ok (.getfield 59, 3) := by decide +kernel
theorem dX9_givenNow_40 : decode cX9_givenNow 40 = .ok (.iload 5, 2) := by decide +kernel
theorem dX9_givenNow_42 : decode cX9_givenNow 42 = .ok (.iaload, 1) := by decide +kernel
theorem dX9_givenNow_43 : decode cX9_givenNow 43 = .ok (.goto 48, 3) := by decide +kernel
theorem dX9_givenNow_46 : decode cX9_givenNow 46 = .ok (.iload_n 3, 1) := by decide +kernel
theorem dX9_givenNow_47 : decode cX9_givenNow 47 = .ok (.iconst 2, 1) := by decide +kernel
theorem dX9_givenNow_48 : decode cX9_givenNow 48 = .ok (.if_icmp .ne 13, 3) := by decide +kernel
theorem dX9_givenNow_51 : decode cX9_givenNow 51 = .ok (.aload_n 0, 1) := by decide +kernel
theorem dX9_givenNow_52 : decode cX9_givenNow 52 = .ok (.getfield 62, 3) := by decide +kernel
theorem dX9_givenNow_55 : decode cX9_givenNow 55 = .ok (.iload 5, 2) := by decide +kernel
theorem dX9_givenNow_57 : decode cX9_givenNow 57 = .ok (.iaload, 1) := by decide +kernel
theorem dX9_givenNow_58 : decode cX9_givenNow 58 = .ok (.goto 33, 3) := by decide +kernel
theorem dX9_givenNow_61 : decode cX9_givenNow 61 = .ok (.iload_n 3, 1) := by decide +kernel
theorem dX9_givenNow_62 : decode cX9_givenNow 62 = .ok (.iconst 3, 1) := by decide +kernel
theorem dX9_givenNow_63 : decode cX9_givenNow 63 = .ok (.if_icmp .ne 13, 3) := by decide +kernel
theorem dX9_givenNow_66 : decode cX9_givenNow 66 = .ok (.aload_n 0, 1) := by decide +kernel
theorem dX9_givenNow_67 : decode cX9_givenNow 67 = .ok (.getfield 65, 3) := by decide +kernel
theorem dX9_givenNow_70 : decode cX9_givenNow 70 = .ok (.iload 5, 2) := by decide +kernel
theorem dX9_givenNow_72 : decode cX9_givenNow 72 = .ok (.iaload, 1) := by decide +kernel
theorem dX9_givenNow_73 : decode cX9_givenNow 73 = .ok (.goto 18, 3) := by decide +kernel
theorem dX9_givenNow_76 : decode cX9_givenNow 76 = .ok (.aload_n 0, 1) := by decide +kernel
theorem dX9_givenNow_77 : decode cX9_givenNow 77 = .ok (.getfield 68, 3) := by decide +kernel
theorem dX9_givenNow_80 : decode cX9_givenNow 80 = .ok (.iload 5, 2) := by decide +kernel
theorem dX9_givenNow_82 : decode cX9_givenNow 82 = .ok (.baload, 1) := by decide +kernel
theorem dX9_givenNow_83 : decode cX9_givenNow 83 = .ok (.ifCond .eq 7, 3) := by decide +kernel
theorem dX9_givenNow_86 : decode cX9_givenNow 86 = .ok (.iconst 1, 1) := by decide +kernel
theorem dX9_givenNow_87 : decode cX9_givenNow 87 = .ok (.goto 4, 3) := by decide +kernel
theorem dX9_givenNow_90 : decode cX9_givenNow 90 = .ok (.iconst 0, 1) := by decide +kernel
theorem dX9_givenNow_91 : decode cX9_givenNow 91 = .ok (.ireturn, 1) := by decide +kernel
abbrev rm_X9_givenNow : Room := { frames := 0, cells := 0, slots := 0, locals := 0 }
def P_X9_givenNow (i1 : Int32) (i2 : Int32) (i3 : Int32) (h : HP) (Q : Int32 → HP → Prop) : Prop := (vp_in i1 4) ∧ (((¬ i3 = 0) → (((¬ i3 = 1) → (((¬ i3 = 2) → (((¬ i3 = 3) → ((vp_in ((64 * i1) + (((h.1 86 i1.toNatClampNeg) + i2) - ((h.1 86 i1.toNatClampNeg) + i2) / 64 * 64)) 256) ∧ ((((h.1 98 ((64 * i1) + (((h.1 86 i1.toNatClampNeg) + i2) - ((h.1 86 i1.toNatClampNeg) + i2) / 64 * 64)).toNatClampNeg) = 0) → Q 0 h) ∧ ((¬ (h.1 98 ((64 * i1) + (((h.1 86 i1.toNatClampNeg) + i2) - ((h.1 86 i1.toNatClampNeg) + i2) / 64 * 64)).toNatClampNeg) = 0) → Q 1 h)))) ∧ ((i3 = 3) → ((vp_in ((64 * i1) + (((h.1 86 i1.toNatClampNeg) + i2) - ((h.1 86 i1.toNatClampNeg) + i2) / 64 * 64)) 256) ∧ (Q (h.1 97 ((64 * i1) + (((h.1 86 i1.toNatClampNeg) + i2) - ((h.1 86 i1.toNatClampNeg) + i2) / 64 * 64)).toNatClampNeg) h))))) ∧ ((i3 = 2) → ((vp_in ((64 * i1) + (((h.1 86 i1.toNatClampNeg) + i2) - ((h.1 86 i1.toNatClampNeg) + i2) / 64 * 64)) 256) ∧ (Q (h.1 96 ((64 * i1) + (((h.1 86 i1.toNatClampNeg) + i2) - ((h.1 86 i1.toNatClampNeg) + i2) / 64 * 64)).toNatClampNeg) h))))) ∧ ((i3 = 1) → ((vp_in ((64 * i1) + (((h.1 86 i1.toNatClampNeg) + i2) - ((h.1 86 i1.toNatClampNeg) + i2) / 64 * 64)) 256) ∧ (Q (h.1 95 ((64 * i1) + (((h.1 86 i1.toNatClampNeg) + i2) - ((h.1 86 i1.toNatClampNeg) + i2) / 64 * 64)).toNatClampNeg) h))))) ∧ ((i3 = 0) → (Q (((h.1 86 i1.toNatClampNeg) + i2) - ((h.1 86 i1.toNatClampNeg) + i2) / 64 * 64) h)))
set_option maxHeartbeats 4000000 in
theorem t_X9_givenNow {i1 : Int32} {i2 : Int32} {i3 : Int32} {h : HP} {Q : Int32 → HP → Prop}  (hp : P_X9_givenNow i1 i2 i3 h Q) : MT yX9_givenNow cX9_givenNow 6 (some .int) rm_X9_givenNow [.ref 78, .int i1, .int i2, .int i3] gM SH (emb h) (pI Q) := by
  refine MT.of (by decide +kernel) (Nat.le_of_ble_eq_true rfl) (fun C hC hE => ?_)
  show SW C gM 0 [(0, .ref 78), (1, .int i1), (2, .int i2), (3, .int i3)] [] h
  unfold P_X9_givenNow at hp
  refine x_aload_n hC dX9_givenNow_0 (lm 0 rfl) ?_
  refine s_getR (r := 86) hC dX9_givenNow_1 fk_9_31 ty_78 (fr_9_14 ty_78).1 ?_
  refine x_iload_n hC dX9_givenNow_4 (lm 1 rfl) ?_
  obtain ⟨ho, hp⟩ := hp
  refine s_iald hC dX9_givenNow_5 ((fr_9_14 ty_78).2) ho ?_
  refine x_iload_n hC dX9_givenNow_6 (lm 2 rfl) ?_
  refine x_iadd hC dX9_givenNow_7 ?_
  refine x_bipush hC dX9_givenNow_8 bp_64 ?_
  refine x_irem hC dX9_givenNow_10 (by decide) ?_
  refine x_istore (lv' := [(4, .int (((h.1 86 i1.toNatClampNeg) + i2) - ((h.1 86 i1.toNatClampNeg) + i2) / 64 * 64)), (0, .ref 78), (1, .int i1), (2, .int i2), (3, .int i3)]) hC dX9_givenNow_11 (by decide) rfl ?_
  refine x_bipush hC dX9_givenNow_13 bp_64 ?_
  refine x_iload_n hC dX9_givenNow_15 (lm 2 rfl) ?_
  refine x_imul hC dX9_givenNow_16 ?_
  refine x_iload hC dX9_givenNow_17 (lm 0 rfl) ?_
  refine x_iadd hC dX9_givenNow_19 ?_
  refine x_istore (lv' := [(5, .int ((64 * i1) + (((h.1 86 i1.toNatClampNeg) + i2) - ((h.1 86 i1.toNatClampNeg) + i2) / 64 * 64))), (4, .int (((h.1 86 i1.toNatClampNeg) + i2) - ((h.1 86 i1.toNatClampNeg) + i2) / 64 * 64)), (0, .ref 78), (1, .int i1), (2, .int i2), (3, .int i3)]) hC dX9_givenNow_20 (by decide) rfl ?_
  refine x_iload_n hC dX9_givenNow_22 (lm 5 rfl) ?_
  refine x_if_ne (tgt := 31) hC dX9_givenNow_23 (by decide) (fun hc => ?_) (fun hc => ?_)
  · have hp := hp.1 hc
    refine x_iload_n hC dX9_givenNow_31 (lm 5 rfl) ?_
    refine x_iconst hC dX9_givenNow_32 ic_1 ?_
    refine x_icmp_ne (tgt := 46) hC dX9_givenNow_33 (by decide) (fun hc => ?_) (fun hc => ?_)
    · have hp := hp.1 hc
      refine x_iload_n hC dX9_givenNow_46 (lm 5 rfl) ?_
      refine x_iconst hC dX9_givenNow_47 ic_2 ?_
      refine x_icmp_ne (tgt := 61) hC dX9_givenNow_48 (by decide) (fun hc => ?_) (fun hc => ?_)
      · have hp := hp.1 hc
        refine x_iload_n hC dX9_givenNow_61 (lm 5 rfl) ?_
        refine x_iconst hC dX9_givenNow_62 ic_3 ?_
        refine x_icmp_ne (tgt := 76) hC dX9_givenNow_63 (by decide) (fun hc => ?_) (fun hc => ?_)
        · have hp := hp.1 hc
          refine x_aload_n hC dX9_givenNow_76 (lm 2 rfl) ?_
          refine s_getR (r := 98) hC dX9_givenNow_77 fk_9_68 ty_78 (fr_9_26 ty_78).1 ?_
          refine x_iload hC dX9_givenNow_80 (lm 0 rfl) ?_
          obtain ⟨ho, hp⟩ := hp
          refine s_zald hC dX9_givenNow_82 ((fr_9_26 ty_78).2) ho ?_
          refine x_if_eq (tgt := 90) hC dX9_givenNow_83 (by decide) (fun hc => ?_) (fun hc => ?_)
          · have hp := hp.1 hc
            refine x_iconst hC dX9_givenNow_90 ic_0 ?_
            exact x_iret hC hE dX9_givenNow_91 ⟨_, _, rfl, rfl, hp⟩
          · have hp := hp.2 hc
            refine x_iconst hC dX9_givenNow_86 ic_1 ?_
            refine x_goto (tgt := 91) hC dX9_givenNow_87 (by decide) ?_
            exact x_iret hC hE dX9_givenNow_91 ⟨_, _, rfl, rfl, hp⟩
        · have hp := hp.2 hc
          refine x_aload_n hC dX9_givenNow_66 (lm 2 rfl) ?_
          refine s_getR (r := 97) hC dX9_givenNow_67 fk_9_65 ty_78 (fr_9_25 ty_78).1 ?_
          refine x_iload hC dX9_givenNow_70 (lm 0 rfl) ?_
          obtain ⟨ho, hp⟩ := hp
          refine s_iald hC dX9_givenNow_72 ((fr_9_25 ty_78).2) ho ?_
          refine x_goto (tgt := 91) hC dX9_givenNow_73 (by decide) ?_
          exact x_iret hC hE dX9_givenNow_91 ⟨_, _, rfl, rfl, hp⟩
      · have hp := hp.2 hc
        refine x_aload_n hC dX9_givenNow_51 (lm 2 rfl) ?_
        refine s_getR (r := 96) hC dX9_givenNow_52 fk_9_62 ty_78 (fr_9_24 ty_78).1 ?_
        refine x_iload hC dX9_givenNow_55 (lm 0 rfl) ?_
        obtain ⟨ho, hp⟩ := hp
        refine s_iald hC dX9_givenNow_57 ((fr_9_24 ty_78).2) ho ?_
        refine x_goto (tgt := 91) hC dX9_givenNow_58 (by decide) ?_
        exact x_iret hC hE dX9_givenNow_91 ⟨_, _, rfl, rfl, hp⟩
    · have hp := hp.2 hc
      refine x_aload_n hC dX9_givenNow_36 (lm 2 rfl) ?_
      refine s_getR (r := 95) hC dX9_givenNow_37 fk_9_59 ty_78 (fr_9_23 ty_78).1 ?_
      refine x_iload hC dX9_givenNow_40 (lm 0 rfl) ?_
      obtain ⟨ho, hp⟩ := hp
      refine s_iald hC dX9_givenNow_42 ((fr_9_23 ty_78).2) ho ?_
      refine x_goto (tgt := 91) hC dX9_givenNow_43 (by decide) ?_
      exact x_iret hC hE dX9_givenNow_91 ⟨_, _, rfl, rfl, hp⟩
  · have hp := hp.2 hc
    refine x_iload hC dX9_givenNow_26 (lm 1 rfl) ?_
    refine x_goto (tgt := 91) hC dX9_givenNow_28 (by decide) ?_
    exact x_iret hC hE dX9_givenNow_91 ⟨_, _, rfl, rfl, hp⟩
theorem dX9_given_0 : decode cX9_given 0 = .ok (.aload_n 0, 1) := by decide +kernel
theorem dX9_given_1 : decode cX9_given 1 = .ok (.iload_n 1, 1) := by decide +kernel
theorem dX9_given_2 : decode cX9_given 2 = .ok (.invokevirtual 171, 3) := by decide +kernel
theorem dX9_given_5 : decode cX9_given 5 = .ok (.ifCond .eq 36, 3) := by decide +kernel
theorem dX9_given_8 : decode cX9_given 8 = .ok (.aload_n 0, 1) := by decide +kernel
theorem dX9_given_9 : decode cX9_given 9 = .ok (.iload_n 1, 1) := by decide +kernel
theorem dX9_given_10 : decode cX9_given 10 = .ok (.invokevirtual 182, 3) := by decide +kernel
theorem dX9_given_13 : decode cX9_given 13 = .ok (.ifCond .eq 28, 3) := by decide +kernel
theorem dX9_given_16 : decode cX9_given 16 = .ok (.iload_n 2, 1) := by decide +kernel
theorem dX9_given_17 : decode cX9_given 17 = .ok (.iconst 0, 1) := by decide +kernel
theorem dX9_given_18 : decode cX9_given 18 = .ok (.aload_n 0, 1) := by decide +kernel
theorem dX9_given_19 : decode cX9_given 19 = .ok (.getfield 31, 3) := by decide +kernel
theorem dX9_given_22 : decode cX9_given 22 = .ok (.iload_n 1, 1) := by decide +kernel
theorem dX9_given_23 : decode cX9_given 23 = .ok (.iaload, 1) := by decide +kernel
theorem dX9_given_24 : decode cX9_given 24 = .ok (.aload_n 0, 1) := by decide +kernel
theorem dX9_given_25 : decode cX9_given 25 = .ok (.getfield 34, 3) := by decide +kernel
theorem dX9_given_28 : decode cX9_given 28 = .ok (.iload_n 1, 1) := by decide +kernel
theorem dX9_given_29 : decode cX9_given 29 = .ok (.iaload, 1) := by decide +kernel
theorem dX9_given_30 : decode cX9_given 30 = .ok (.invokestatic 119, 3) := by decide +kernel
theorem dX9_given_33 : decode cX9_given 33 = .ok (.iconst 1, 1) := by decide +kernel
theorem dX9_given_34 : decode cX9_given 34 = .ok (.isub, 1) := by decide +kernel
theorem dX9_given_35 : decode cX9_given 35 = .ok (.invokestatic 123, 3) := by decide +kernel
theorem dX9_given_38 : decode cX9_given 38 = .ok (.ifCond .ne 6, 3) := by decide +kernel
theorem dX9_given_41 : decode cX9_given 41 = .ok (.bipush (-101), 2) := by decide +kernel
theorem dX9_given_43 : decode cX9_given 43 = .ok (.ireturn, 1) := by decide +kernel
theorem dX9_given_44 : decode cX9_given 44 = .ok (.iload_n 3, 1) := by decide +kernel
theorem dX9_given_45 : decode cX9_given 45 = .ok (.iconst 0, 1) := by decide +kernel
theorem dX9_given_46 : decode cX9_given 46 = .ok (.iconst 4, 1) := by decide +kernel
theorem dX9_given_47 : decode cX9_given 47 = .ok (.invokestatic 123, 3) := by decide +kernel
theorem dX9_given_50 : decode cX9_given 50 = .ok (.ifCond .eq 13, 3) := by decide +kernel
theorem dX9_given_53 : decode cX9_given 53 = .ok (.aload_n 0, 1) := by decide +kernel
theorem dX9_given_54 : decode cX9_given 54 = .ok (.iload_n 1, 1) := by decide +kernel
theorem dX9_given_55 : decode cX9_given 55 = .ok (.iload_n 2, 1) := by decide +kernel
theorem dX9_given_56 : decode cX9_given 56 = .ok (.iload_n 3, 1) := by decide +kernel
theorem dX9_given_57 : decode cX9_given 57 = .ok (.invokevirtual 299, 3) := by decide +kernel
theorem dX9_given_60 : decode cX9_given 60 = .ok (.goto 5, 3) := by decide +kernel
theorem dX9_given_63 : decode cX9_given 63 = .ok (.bipush (-102), 2) := by decide +kernel
theorem dX9_given_65 : decode cX9_given 65 = .ok (.ireturn, 1) := by decide +kernel
abbrev rm_X9_given : Room := { frames := 2, cells := 0, slots := 0, locals := 43 }
def P_X9_given (i1 : Int32) (i2 : Int32) (i3 : Int32) (h : HP) (Q : Int32 → HP → Prop) : Prop := P_X9_isClass i1 h (fun (v_2 : Int32) (h_2 : HP) => ((v_2 = 0) → (Q (-101) h_2)) ∧ ((¬ v_2 = 0) → (P_X9_isOpen i1 h_2 (fun (v_10 : Int32) (h_10 : HP) => ((v_10 = 0) → (Q (-101) h_10)) ∧ ((¬ v_10 = 0) → ((vp_in i1 4) ∧ ((vp_in i1 4) ∧ (P_X9_ahead (h_10.1 86 i1.toNatClampNeg) (h_10.1 87 i1.toNatClampNeg) h_10 (fun (v_30 : Int32) (h_30 : HP) => P_X9_within i2 0 (v_30 - 1) h_30 (fun (v_35 : Int32) (h_35 : HP) => ((¬ v_35 = 0) → (P_X9_within i3 0 4 h_35 (fun (v_47 : Int32) (h_47 : HP) => ((v_47 = 0) → (Q (-102) h_47)) ∧ ((¬ v_47 = 0) → (P_X9_givenNow i1 i2 i3 h_47 (fun (v_57 : Int32) (h_57 : HP) => Q v_57 h_57)))))) ∧ ((v_35 = 0) → (Q (-101) h_35))))))))))))
set_option maxHeartbeats 4000000 in
theorem t_X9_given {i1 : Int32} {i2 : Int32} {i3 : Int32} {h : HP} {Q : Int32 → HP → Prop}  (hp : P_X9_given i1 i2 i3 h Q) : MT yX9_given cX9_given 4 (some .int) rm_X9_given [.ref 78, .int i1, .int i2, .int i3] gM SH (emb h) (pI Q) := by
  refine MT.of (by decide +kernel) (Nat.le_of_ble_eq_true rfl) (fun C hC hE => ?_)
  show SW C gM 0 [(0, .ref 78), (1, .int i1), (2, .int i2), (3, .int i3)] [] h
  unfold P_X9_given at hp
  refine x_aload_n hC dX9_given_0 (lm 0 rfl) ?_
  refine x_iload_n hC dX9_given_1 (lm 1 rfl) ?_
  refine s_callVi (avs := [.int i1]) (st := []) hC dX9_given_2 ml_9_171 mi_X9_isClass ty_78 rfl (t_X9_isClass  hp) (Nat.le_of_ble_eq_true rfl) ⟨rfl, rfl⟩ ⟨Nat.le_of_ble_eq_true rfl, Nat.le_of_ble_eq_true rfl⟩ (fun v_2 h_2 hp => ?_)
  refine x_if_eq (tgt := 41) hC dX9_given_5 (by decide) (fun hc => ?_) (fun hc => ?_)
  · have hp := hp.1 hc
    refine x_bipush hC dX9_given_41 bp_m101 ?_
    exact x_iret hC hE dX9_given_43 ⟨_, _, rfl, rfl, hp⟩
  · have hp := hp.2 hc
    refine x_aload_n hC dX9_given_8 (lm 0 rfl) ?_
    refine x_iload_n hC dX9_given_9 (lm 1 rfl) ?_
    refine s_callVi (avs := [.int i1]) (st := []) hC dX9_given_10 ml_9_182 mi_X9_isOpen ty_78 rfl (t_X9_isOpen  hp) (Nat.le_of_ble_eq_true rfl) ⟨rfl, rfl⟩ ⟨Nat.le_of_ble_eq_true rfl, Nat.le_of_ble_eq_true rfl⟩ (fun v_10 h_10 hp => ?_)
    refine x_if_eq (tgt := 41) hC dX9_given_13 (by decide) (fun hc => ?_) (fun hc => ?_)
    · have hp := hp.1 hc
      refine x_bipush hC dX9_given_41 bp_m101 ?_
      exact x_iret hC hE dX9_given_43 ⟨_, _, rfl, rfl, hp⟩
    · have hp := hp.2 hc
      refine x_iload_n hC dX9_given_16 (lm 2 rfl) ?_
      refine x_iconst hC dX9_given_17 ic_0 ?_
      refine x_aload_n hC dX9_given_18 (lm 0 rfl) ?_
      refine s_getR (r := 86) hC dX9_given_19 fk_9_31 ty_78 (fr_9_14 ty_78).1 ?_
      refine x_iload_n hC dX9_given_22 (lm 1 rfl) ?_
      obtain ⟨ho, hp⟩ := hp
      refine s_iald hC dX9_given_23 ((fr_9_14 ty_78).2) ho ?_
      refine x_aload_n hC dX9_given_24 (lm 0 rfl) ?_
      refine s_getR (r := 87) hC dX9_given_25 fk_9_34 ty_78 (fr_9_15 ty_78).1 ?_
      refine x_iload_n hC dX9_given_28 (lm 1 rfl) ?_
      obtain ⟨ho, hp⟩ := hp
      refine s_iald hC dX9_given_29 ((fr_9_15 ty_78).2) ho ?_
      refine s_callSi (avs := [.int (h_10.1 86 i1.toNatClampNeg), .int (h_10.1 87 i1.toNatClampNeg)]) (st := [.int 0, .int i2]) hC dX9_given_30 ml_9_119 ms_X9_ahead rfl (t_X9_ahead  hp) (Nat.le_of_ble_eq_true rfl) ⟨rfl, rfl⟩ ⟨Nat.le_of_ble_eq_true rfl, Nat.le_of_ble_eq_true rfl⟩ (fun v_30 h_30 hp => ?_)
      refine x_iconst hC dX9_given_33 ic_1 ?_
      refine x_isub hC dX9_given_34 ?_
      refine s_callSi (avs := [.int i2, .int 0, .int (v_30 - 1)]) (st := []) hC dX9_given_35 ml_9_123 ms_X9_within rfl (t_X9_within  hp) (Nat.le_of_ble_eq_true rfl) ⟨rfl, rfl⟩ ⟨Nat.le_of_ble_eq_true rfl, Nat.le_of_ble_eq_true rfl⟩ (fun v_35 h_35 hp => ?_)
      refine x_if_ne (tgt := 44) hC dX9_given_38 (by decide) (fun hc => ?_) (fun hc => ?_)
      · have hp := hp.1 hc
        refine x_iload_n hC dX9_given_44 (lm 3 rfl) ?_
        refine x_iconst hC dX9_given_45 ic_0 ?_
        refine x_iconst hC dX9_given_46 ic_4 ?_
        refine s_callSi (avs := [.int i3, .int 0, .int 4]) (st := []) hC dX9_given_47 ml_9_123 ms_X9_within rfl (t_X9_within  hp) (Nat.le_of_ble_eq_true rfl) ⟨rfl, rfl⟩ ⟨Nat.le_of_ble_eq_true rfl, Nat.le_of_ble_eq_true rfl⟩ (fun v_47 h_47 hp => ?_)
        refine x_if_eq (tgt := 63) hC dX9_given_50 (by decide) (fun hc => ?_) (fun hc => ?_)
        · have hp := hp.1 hc
          refine x_bipush hC dX9_given_63 bp_m102 ?_
          exact x_iret hC hE dX9_given_65 ⟨_, _, rfl, rfl, hp⟩
        · have hp := hp.2 hc
          refine x_aload_n hC dX9_given_53 (lm 0 rfl) ?_
          refine x_iload_n hC dX9_given_54 (lm 1 rfl) ?_
          refine x_iload_n hC dX9_given_55 (lm 2 rfl) ?_
          refine x_iload_n hC dX9_given_56 (lm 3 rfl) ?_
          refine s_callVi (avs := [.int i1, .int i2, .int i3]) (st := []) hC dX9_given_57 ml_9_299 mi_X9_givenNow ty_78 rfl (t_X9_givenNow  hp) (Nat.le_of_ble_eq_true rfl) ⟨rfl, rfl⟩ ⟨Nat.le_of_ble_eq_true rfl, Nat.le_of_ble_eq_true rfl⟩ (fun v_57 h_57 hp => ?_)
          refine x_goto (tgt := 65) hC dX9_given_60 (by decide) ?_
          exact x_iret hC hE dX9_given_65 ⟨_, _, rfl, rfl, hp⟩
      · have hp := hp.2 hc
        refine x_bipush hC dX9_given_41 bp_m101 ?_
        exact x_iret hC hE dX9_given_43 ⟨_, _, rfl, rfl, hp⟩
theorem dX9_heldMany_0 : decode cX9_heldMany 0 = .ok (.iconst 0, 1) := by decide +kernel
theorem dX9_heldMany_1 : decode cX9_heldMany 1 = .ok (.istore_n 2, 1) := by decide +kernel
theorem dX9_heldMany_2 : decode cX9_heldMany 2 = .ok (.iconst 0, 1) := by decide +kernel
theorem dX9_heldMany_3 : decode cX9_heldMany 3 = .ok (.istore_n 3, 1) := by decide +kernel
theorem dX9_heldMany_4 : decode cX9_heldMany 4 = .ok (.iload_n 3, 1) := by decide +kernel
theorem dX9_heldMany_5 : decode cX9_heldMany 5 = .ok (.aload_n 0, 1) := by decide +kernel
theorem dX9_heldMany_6 : decode cX9_heldMany 6 = .ok (.getfield 77, 3) := by decide +kernel
theorem dX9_heldMany_9 : decode cX9_heldMany 9 = .ok (.iload_n 1, 1) := by decide +kernel
theorem dX9_heldMany_10 : decode cX9_heldMany 10 = .ok (.iaload, 1) := by decide +kernel
theorem dX9_heldMany_11 : decode cX9_heldMany 11 = .ok (.if_icmp .ge 41, 3) := by decide +kernel
theorem dX9_heldMany_14 : decode cX9_heldMany 14 = .ok (.iload_n 2, 1) := by decide +kernel
theorem dX9_heldMany_15 : decode cX9_heldMany 15 = .ok (.aload_n 0, 1) := by decide +kernel
theorem dX9_heldMany_16 : decode cX9_heldMany 16 = .ok (.getfield 98, 3) := by decide +kernel
theorem dX9_heldMany_19 : decode cX9_heldMany 19 = .ok (.bipush 64, 2) := by decide +kernel
theorem dX9_heldMany_21 : decode cX9_heldMany 21 = .ok (.iload_n 1, 1) := by decide +kernel
theorem dX9_heldMany_22 : decode cX9_heldMany 22 = .ok (.imul, 1) := by decide +kernel
theorem dX9_heldMany_23 : decode cX9_heldMany 23 = .ok (.aload_n 0, 1) := by decide +kernel
theorem dX9_heldMany_24 : decode cX9_heldMany 24 = .ok (.getfield 83, 3) := by decide +kernel
theorem dX9_heldMany_27 : decode cX9_heldMany 27 = .ok (.iload_n 1, 1) := by decide +kernel
theorem dX9_heldMany_28 : decode cX9_heldMany 28 = .ok (.iaload, 1) := by decide +kernel
theorem dX9_heldMany_29 : decode cX9_heldMany 29 = .ok (.iload_n 3, 1) := by decide +kernel
theorem dX9_heldMany_30 : decode cX9_heldMany 30 = .ok (.iadd, 1) := by decide +kernel
theorem dX9_heldMany_31 : decode cX9_heldMany 31 = .ok (.bipush 64, 2) := by decide +kernel
theorem dX9_heldMany_33 : decode cX9_heldMany 33 = .ok (.irem, 1) := by decide +kernel
theorem dX9_heldMany_34 : decode cX9_heldMany 34 = .ok (.iadd, 1) := by decide +kernel
theorem dX9_heldMany_35 : decode cX9_heldMany 35 = .ok (.iaload, 1) := by decide +kernel
theorem dX9_heldMany_36 : decode cX9_heldMany 36 = .ok (.ifCond .le 7, 3) := by decide +kernel
theorem dX9_heldMany_39 : decode cX9_heldMany 39 = .ok (.iconst 1, 1) := by decide +kernel
theorem dX9_heldMany_40 : decode cX9_heldMany 40 = .ok (.goto 4, 3) := by decide +kernel
theorem dX9_heldMany_43 : decode cX9_heldMany 43 = .ok (.iconst 0, 1) := by decide +kernel
theorem dX9_heldMany_44 : decode cX9_heldMany 44 = .ok (.iadd, 1) := by decide +kernel
theorem dX9_heldMany_45 : decode cX9_heldMany 45 = .ok (.istore_n 2, 1) := by decide +kernel
theorem dX9_heldMany_46 : decode cX9_heldMany 46 = .ok (.iinc 3 1, 3) := by decide +kernel
theorem dX9_heldMany_49 : decode cX9_heldMany 49 = .ok (.goto (-45), 3) := by decide +kernel
theorem dX9_heldMany_52 : decode cX9_heldMany 52 = .ok (.iload_n 2, 1) := by decide +kernel
theorem dX9_heldMany_53 : decode cX9_heldMany 53 = .ok (.ireturn, 1) := by decide +kernel
abbrev rm_X9_heldMany : Room := { frames := 0, cells := 0, slots := 0, locals := 0 }
def P_X9_heldMany (i1 : Int32) (h : HP) (Q : Int32 → HP → Prop) : Prop := Lp3 (fun X_4 (i2_4 : Int32) (i3_4 : Int32) (h_4 : HP) => (vp_in i1 4) ∧ ((((h_4.1 101 i1.toNatClampNeg) ≤ i3_4) → Q i2_4 h_4) ∧ ((¬ (h_4.1 101 i1.toNatClampNeg) ≤ i3_4) → ((vp_in i1 4) ∧ ((vp_in ((64 * i1) + (((h_4.1 103 i1.toNatClampNeg) + i3_4) - ((h_4.1 103 i1.toNatClampNeg) + i3_4) / 64 * 64)) 256) ∧ ((((h_4.1 108 ((64 * i1) + (((h_4.1 103 i1.toNatClampNeg) + i3_4) - ((h_4.1 103 i1.toNatClampNeg) + i3_4) / 64 * 64)).toNatClampNeg) ≤ 0) → (X_4 (i2_4 + 0) (i3_4 + 1) h_4)) ∧ ((¬ (h_4.1 108 ((64 * i1) + (((h_4.1 103 i1.toNatClampNeg) + i3_4) - ((h_4.1 103 i1.toNatClampNeg) + i3_4) / 64 * 64)).toNatClampNeg) ≤ 0) → (X_4 (i2_4 + 1) (i3_4 + 1) h_4)))))))) 0 0 h
set_option maxHeartbeats 4000000 in
theorem t_X9_heldMany {i1 : Int32} {h : HP} {Q : Int32 → HP → Prop}  (hp : P_X9_heldMany i1 h Q) : MT yX9_heldMany cX9_heldMany 4 (some .int) rm_X9_heldMany [.ref 78, .int i1] gM SH (emb h) (pI Q) := by
  refine MT.of (by decide +kernel) (Nat.le_of_ble_eq_true rfl) (fun C hC hE => ?_)
  show SW C gM 0 [(0, .ref 78), (1, .int i1)] [] h
  unfold P_X9_heldMany at hp
  refine x_iconst hC dX9_heldMany_0 ic_0 ?_
  refine x_istore_n (lv' := [(2, .int 0), (0, .ref 78), (1, .int i1)]) hC dX9_heldMany_1 (by decide) rfl ?_
  refine x_iconst hC dX9_heldMany_2 ic_0 ?_
  refine x_istore_n (lv' := [(3, .int 0), (2, .int 0), (0, .ref 78), (1, .int i1)]) hC dX9_heldMany_3 (by decide) rfl ?_
  refine x_subk (lv' := [(0, .ref 78), (1, .int i1), (2, .int 0), (3, .int 0)]) [2, 3, 1, 0] rfl ?_
  refine hp (fun i2_4 i3_4 h_4 => SW C gM 4 [(0, .ref 78), (1, .int i1), (2, .int i2_4), (3, .int i3_4)] [] h_4) (fun i2_4 i3_4 h_4 hp => ?_)
  refine x_iload_n hC dX9_heldMany_4 (lm 3 rfl) ?_
  refine x_aload_n hC dX9_heldMany_5 (lm 0 rfl) ?_
  refine s_getR (r := 101) hC dX9_heldMany_6 fk_9_77 ty_78 (fr_9_29 ty_78).1 ?_
  refine x_iload_n hC dX9_heldMany_9 (lm 1 rfl) ?_
  obtain ⟨ho, hp⟩ := hp
  refine s_iald hC dX9_heldMany_10 ((fr_9_29 ty_78).2) ho ?_
  refine x_icmp_ge (tgt := 52) hC dX9_heldMany_11 (by decide) (fun hc => ?_) (fun hc => ?_)
  · have hp := hp.1 hc
    refine x_iload_n hC dX9_heldMany_52 (lm 2 rfl) ?_
    exact x_iret hC hE dX9_heldMany_53 ⟨_, _, rfl, rfl, hp⟩
  · have hp := hp.2 hc
    refine x_iload_n hC dX9_heldMany_14 (lm 2 rfl) ?_
    refine x_aload_n hC dX9_heldMany_15 (lm 0 rfl) ?_
    refine s_getR (r := 108) hC dX9_heldMany_16 fk_9_98 ty_78 (fr_9_36 ty_78).1 ?_
    refine x_bipush hC dX9_heldMany_19 bp_64 ?_
    refine x_iload_n hC dX9_heldMany_21 (lm 1 rfl) ?_
    refine x_imul hC dX9_heldMany_22 ?_
    refine x_aload_n hC dX9_heldMany_23 (lm 0 rfl) ?_
    refine s_getR (r := 103) hC dX9_heldMany_24 fk_9_83 ty_78 (fr_9_31 ty_78).1 ?_
    refine x_iload_n hC dX9_heldMany_27 (lm 1 rfl) ?_
    obtain ⟨ho, hp⟩ := hp
    refine s_iald hC dX9_heldMany_28 ((fr_9_31 ty_78).2) ho ?_
    refine x_iload_n hC dX9_heldMany_29 (lm 3 rfl) ?_
    refine x_iadd hC dX9_heldMany_30 ?_
    refine x_bipush hC dX9_heldMany_31 bp_64 ?_
    refine x_irem hC dX9_heldMany_33 (by decide) ?_
    refine x_iadd hC dX9_heldMany_34 ?_
    obtain ⟨ho, hp⟩ := hp
    refine s_iald hC dX9_heldMany_35 ((fr_9_36 ty_78).2) ho ?_
    refine x_if_le (tgt := 43) hC dX9_heldMany_36 (by decide) (fun hc => ?_) (fun hc => ?_)
    · have hp := hp.1 hc
      refine x_iconst hC dX9_heldMany_43 ic_0 ?_
      refine x_iadd hC dX9_heldMany_44 ?_
      refine x_istore_n (lv' := [(2, .int (i2_4 + 0)), (0, .ref 78), (1, .int i1), (3, .int i3_4)]) hC dX9_heldMany_45 (by decide) rfl ?_
      refine x_iinc (u := i3_4 + 1) (lv' := [(3, .int (i3_4 + 1)), (2, .int (i2_4 + 0)), (0, .ref 78), (1, .int i1)]) hC dX9_heldMany_46 (lm 3 rfl) (congrArg _ ic_1) (by decide) rfl ?_
      refine x_goto (tgt := 4) hC dX9_heldMany_49 (by decide) ?_
      exact x_subk [2, 3, 1, 0] rfl hp
    · have hp := hp.2 hc
      refine x_iconst hC dX9_heldMany_39 ic_1 ?_
      refine x_goto (tgt := 44) hC dX9_heldMany_40 (by decide) ?_
      refine x_iadd hC dX9_heldMany_44 ?_
      refine x_istore_n (lv' := [(2, .int (i2_4 + 1)), (0, .ref 78), (1, .int i1), (3, .int i3_4)]) hC dX9_heldMany_45 (by decide) rfl ?_
      refine x_iinc (u := i3_4 + 1) (lv' := [(3, .int (i3_4 + 1)), (2, .int (i2_4 + 1)), (0, .ref 78), (1, .int i1)]) hC dX9_heldMany_46 (lm 3 rfl) (congrArg _ ic_1) (by decide) rfl ?_
      refine x_goto (tgt := 4) hC dX9_heldMany_49 (by decide) ?_
      exact x_subk [2, 3, 1, 0] rfl hp
theorem dX9_farNow_0 : decode cX9_farNow 0 = .ok (.iload_n 2, 1) := by decide +kernel
theorem dX9_farNow_1 : decode cX9_farNow 1 = .ok (.ifCond .ne 18, 3) := by decide +kernel
theorem dX9_farNow_4 : decode cX9_farNow 4 = .ok (.aload_n 0, 1) := by decide +kernel
theorem dX9_farNow_5 : decode cX9_farNow 5 = .ok (.getfield 71, 3) := by decide +kernel
theorem dX9_farNow_8 : decode cX9_farNow 8 = .ok (.iload_n 1, 1) := by decide +kernel
theorem dX9_farNow_9 : decode cX9_farNow 9 = .ok (.baload, 1) := by decide +kernel
theorem dX9_farNow_10 : decode cX9_farNow 10 = .ok (.ifCond .eq 7, 3) := by decide +kernel
theorem dX9_farNow_13 : decode cX9_farNow 13 = .ok (.iconst 1, 1) := by decide +kernel
theorem dX9_farNow_14 : decode cX9_farNow 14 = .ok (.goto 4, 3) := by decide +kernel
theorem dX9_farNow_17 : decode cX9_farNow 17 = .ok (.iconst 0, 1) := by decide +kernel
theorem dX9_farNow_18 : decode cX9_farNow 18 = .ok (.ireturn, 1) := by decide +kernel
theorem dX9_farNow_19 : decode cX9_farNow 19 = .ok (.aload_n 0, 1) := by decide +kernel
theorem dX9_farNow_20 : decode cX9_farNow 20 = .ok (.getfield 71, 3) := by decide +kernel
theorem dX9_farNow_23 : decode cX9_farNow 23 = .ok (.iload_n 1, 1) := by decide +kernel
theorem dX9_farNow_24 : decode cX9_farNow 24 = .ok (.baload, 1) := by decide +kernel
theorem dX9_farNow_25 : decode cX9_farNow 25 = .ok (.ifCond .ne 5, 3) := by decide +kernel
theorem dX9_farNow_28 : decode cX9_farNow 28 = .ok (.iconst (-1), 1) := by decide +kernel
theorem dX9_farNow_29 : decode cX9_farNow 29 = .ok (.ireturn, 1) := by decide +kernel
theorem dX9_farNow_30 : decode cX9_farNow 30 = .ok (.iload_n 2, 1) := by decide +kernel
theorem dX9_farNow_31 : decode cX9_farNow 31 = .ok (.tableswitch 89 1 7 #[41, 48, 55, 62, 69, 76, 82], 41) := by decide +kernel
theorem dX9_farNow_72 : decode cX9_farNow 72 = .ok (.aload_n 0, 1) := by decide +kernel
theorem dX9_farNow_73 : decode cX9_farNow 73 = .ok (.getfield 74, 3) := by decide +kernel
theorem dX9_farNow_76 : decode cX9_farNow 76 = .ok (.iload_n 1, 1) := by decide +kernel
theorem dX9_farNow_77 : decode cX9_farNow 77 = .ok (.iaload, 1) := by decide +kernel
theorem dX9_farNow_78 : decode cX9_farNow 78 = .ok (.ireturn, 1) := by decide +kernel
theorem dX9_farNow_79 : decode cX9_farNow 79 = .ok (.aload_n 0, 1) := by decide +kernel
theorem dX9_farNow_80 : decode cX9_farNow 80 = .ok (.getfield 77, 3) := by decide +kernel
theorem dX9_farNow_83 : decode cX9_farNow 83 = .ok (.iload_n 1, 1) := by decide +kernel
theorem dX9_farNow_84 : decode cX9_farNow 84 = .ok (.iaload, 1) := by decide +kernel
theorem dX9_farNow_85 : decode cX9_farNow 85 = .ok (.ireturn, 1) := by decide +kernel
theorem dX9_farNow_86 : decode cX9_farNow 86 = .ok (.aload_n 0, 1) := by decide +kernel
theorem dX9_farNow_87 : decode cX9_farNow 87 = .ok (.getfield 83, 3) := by decide +kernel
theorem dX9_farNow_90 : decode cX9_farNow 90 = .ok (.iload_n 1, 1) := by decide +kernel
theorem dX9_farNow_91 : decode cX9_farNow 91 = .ok (.iaload, 1) := by decide +kernel
theorem dX9_farNow_92 : decode cX9_farNow 92 = .ok (.ireturn, 1) := by decide +kernel
theorem dX9_farNow_93 : decode cX9_farNow 93 = .ok (.aload_n 0, 1) := by decide +kernel
theorem dX9_farNow_94 : decode cX9_farNow 94 = .ok (.getfield 86, 3) := by decide +kernel
theorem dX9_farNow_97 : decode cX9_farNow 97 = .ok (.iload_n 1, 1) := by decide +kernel
theorem dX9_farNow_98 : decode cX9_farNow 98 = .ok (.iaload, 1) := by decide +kernel
theorem dX9_farNow_99 : decode cX9_farNow 99 = .ok (.ireturn, 1) := by decide +kernel
theorem dX9_farNow_100 : decode cX9_farNow 100 = .ok (.aload_n 0, 1) := by decide +kernel
theorem dX9_farNow_101 : decode cX9_farNow 101 = .ok (.getfield 89, 3) := by decide +kernel
theorem dX9_farNow_104 : decode cX9_farNow 104 = .ok (.iload_n 1, 1) := by decide +kernel
theorem dX9_farNow_105 : decode cX9_farNow 105 = .ok (.iaload, 1) := by decide +kernel
theorem dX9_farNow_106 : decode cX9_farNow 106 = .ok (.ireturn, 1) := by decide +kernel
theorem dX9_farNow_107 : decode cX9_farNow 107 = .ok (.aload_n 0, 1) := by decide +kernel
theorem dX9_farNow_108 : decode cX9_farNow 108 = .ok (.iload_n 1, 1) := by decide +kernel
theorem dX9_farNow_109 : decode cX9_farNow 109 = .ok (.invokevirtual 303, 3) := by decide +kernel
theorem dX9_farNow_112 : decode cX9_farNow 112 = .ok (.ireturn, 1) := by decide +kernel
theorem dX9_farNow_113 : decode cX9_farNow 113 = .ok (.aload_n 0, 1) := by decide +kernel
theorem dX9_farNow_114 : decode cX9_farNow 114 = .ok (.getfield 92, 3) := by decide +kernel
theorem dX9_farNow_117 : decode cX9_farNow 117 = .ok (.iload_n 1, 1) := by decide +kernel
theorem dX9_farNow_118 : decode cX9_farNow 118 = .ok (.iaload, 1) := by decide +kernel
theorem dX9_farNow_119 : decode cX9_farNow 119 = .ok (.ireturn, 1) := by decide +kernel
theorem dX9_farNow_120 : decode cX9_farNow 120 = .ok (.aload_n 0, 1) := by decide +kernel
theorem dX9_farNow_121 : decode cX9_farNow 121 = .ok (.getfield 95, 3) := by decide +kernel
theorem dX9_farNow_124 : decode cX9_farNow 124 = .ok (.iload_n 1, 1) := by decide +kernel
theorem dX9_farNow_125 : decode cX9_farNow 125 = .ok (.iaload, 1) := by decide +kernel
theorem dX9_farNow_126 : decode cX9_farNow 126 = .ok (.ireturn, 1) := by decide +kernel
abbrev rm_X9_farNow : Room := { frames := 1, cells := 0, slots := 0, locals := 23 }
def P_X9_farNow (i1 : Int32) (i2 : Int32) (h : HP) (Q : Int32 → HP → Prop) : Prop := ((¬ i2 = 0) → ((vp_in i1 4) ∧ (((¬ (h.1 99 i1.toNatClampNeg) = 0) → ((i2.toInt = 1 → ((vp_in i1 4) ∧ (Q (h.1 100 i1.toNatClampNeg) h))) ∧ (i2.toInt = 2 → ((vp_in i1 4) ∧ (Q (h.1 101 i1.toNatClampNeg) h))) ∧ (i2.toInt = 3 → ((vp_in i1 4) ∧ (Q (h.1 103 i1.toNatClampNeg) h))) ∧ (i2.toInt = 4 → ((vp_in i1 4) ∧ (Q (h.1 104 i1.toNatClampNeg) h))) ∧ (i2.toInt = 5 → ((vp_in i1 4) ∧ (Q (h.1 105 i1.toNatClampNeg) h))) ∧ (i2.toInt = 6 → (P_X9_heldMany i1 h (fun (v_109 : Int32) (h_109 : HP) => Q v_109 h_109))) ∧ (i2.toInt = 7 → ((vp_in i1 4) ∧ (Q (h.1 106 i1.toNatClampNeg) h))) ∧ ((i2.toInt < 1 ∨ 7 < i2.toInt) → ((vp_in i1 4) ∧ (Q (h.1 107 i1.toNatClampNeg) h))))) ∧ (((h.1 99 i1.toNatClampNeg) = 0) → (Q (-1) h))))) ∧ ((i2 = 0) → ((vp_in i1 4) ∧ ((((h.1 99 i1.toNatClampNeg) = 0) → Q 0 h) ∧ ((¬ (h.1 99 i1.toNatClampNeg) = 0) → Q 1 h))))
set_option maxHeartbeats 4000000 in
theorem t_X9_farNow {i1 : Int32} {i2 : Int32} {h : HP} {Q : Int32 → HP → Prop}  (hp : P_X9_farNow i1 i2 h Q) : MT yX9_farNow cX9_farNow 3 (some .int) rm_X9_farNow [.ref 78, .int i1, .int i2] gM SH (emb h) (pI Q) := by
  refine MT.of (by decide +kernel) (Nat.le_of_ble_eq_true rfl) (fun C hC hE => ?_)
  show SW C gM 0 [(0, .ref 78), (1, .int i1), (2, .int i2)] [] h
  unfold P_X9_farNow at hp
  refine x_iload_n hC dX9_farNow_0 (lm 2 rfl) ?_
  refine x_if_ne (tgt := 19) hC dX9_farNow_1 (by decide) (fun hc => ?_) (fun hc => ?_)
  · have hp := hp.1 hc
    refine x_aload_n hC dX9_farNow_19 (lm 0 rfl) ?_
    refine s_getR (r := 99) hC dX9_farNow_20 fk_9_71 ty_78 (fr_9_27 ty_78).1 ?_
    refine x_iload_n hC dX9_farNow_23 (lm 1 rfl) ?_
    obtain ⟨ho, hp⟩ := hp
    refine s_zald hC dX9_farNow_24 ((fr_9_27 ty_78).2) ho ?_
    refine x_if_ne (tgt := 30) hC dX9_farNow_25 (by decide) (fun hc => ?_) (fun hc => ?_)
    · have hp := hp.1 hc
      refine x_iload_n hC dX9_farNow_30 (lm 2 rfl) ?_
      refine x_tsw (tgt := 120) hC dX9_farNow_31 [72, 79, 86, 93, 100, 107, 113] (by decide) (by decide) (by decide) (fun hc => ?_) (fun i t hi hx => ?_)
      · have hp := hp.2.2.2.2.2.2.2 hc
        refine x_aload_n hC dX9_farNow_120 (lm 0 rfl) ?_
        refine s_getR (r := 107) hC dX9_farNow_121 fk_9_95 ty_78 (fr_9_35 ty_78).1 ?_
        refine x_iload_n hC dX9_farNow_124 (lm 1 rfl) ?_
        obtain ⟨ho, hp⟩ := hp
        refine s_iald hC dX9_farNow_125 ((fr_9_35 ty_78).2) ho ?_
        exact x_iret hC hE dX9_farNow_126 ⟨_, _, rfl, rfl, hp⟩
      · match i, hi, hx with
        | 0, hi, hx =>
          cases hi
          have hp := hp.1 hx
          refine x_aload_n hC dX9_farNow_72 (lm 0 rfl) ?_
          refine s_getR (r := 100) hC dX9_farNow_73 fk_9_74 ty_78 (fr_9_28 ty_78).1 ?_
          refine x_iload_n hC dX9_farNow_76 (lm 1 rfl) ?_
          obtain ⟨ho, hp⟩ := hp
          refine s_iald hC dX9_farNow_77 ((fr_9_28 ty_78).2) ho ?_
          exact x_iret hC hE dX9_farNow_78 ⟨_, _, rfl, rfl, hp⟩
        | 1, hi, hx =>
          cases hi
          have hp := hp.2.1 hx
          refine x_aload_n hC dX9_farNow_79 (lm 0 rfl) ?_
          refine s_getR (r := 101) hC dX9_farNow_80 fk_9_77 ty_78 (fr_9_29 ty_78).1 ?_
          refine x_iload_n hC dX9_farNow_83 (lm 1 rfl) ?_
          obtain ⟨ho, hp⟩ := hp
          refine s_iald hC dX9_farNow_84 ((fr_9_29 ty_78).2) ho ?_
          exact x_iret hC hE dX9_farNow_85 ⟨_, _, rfl, rfl, hp⟩
        | 2, hi, hx =>
          cases hi
          have hp := hp.2.2.1 hx
          refine x_aload_n hC dX9_farNow_86 (lm 0 rfl) ?_
          refine s_getR (r := 103) hC dX9_farNow_87 fk_9_83 ty_78 (fr_9_31 ty_78).1 ?_
          refine x_iload_n hC dX9_farNow_90 (lm 1 rfl) ?_
          obtain ⟨ho, hp⟩ := hp
          refine s_iald hC dX9_farNow_91 ((fr_9_31 ty_78).2) ho ?_
          exact x_iret hC hE dX9_farNow_92 ⟨_, _, rfl, rfl, hp⟩
        | 3, hi, hx =>
          cases hi
          have hp := hp.2.2.2.1 hx
          refine x_aload_n hC dX9_farNow_93 (lm 0 rfl) ?_
          refine s_getR (r := 104) hC dX9_farNow_94 fk_9_86 ty_78 (fr_9_32 ty_78).1 ?_
          refine x_iload_n hC dX9_farNow_97 (lm 1 rfl) ?_
          obtain ⟨ho, hp⟩ := hp
          refine s_iald hC dX9_farNow_98 ((fr_9_32 ty_78).2) ho ?_
          exact x_iret hC hE dX9_farNow_99 ⟨_, _, rfl, rfl, hp⟩
        | 4, hi, hx =>
          cases hi
          have hp := hp.2.2.2.2.1 hx
          refine x_aload_n hC dX9_farNow_100 (lm 0 rfl) ?_
          refine s_getR (r := 105) hC dX9_farNow_101 fk_9_89 ty_78 (fr_9_33 ty_78).1 ?_
          refine x_iload_n hC dX9_farNow_104 (lm 1 rfl) ?_
          obtain ⟨ho, hp⟩ := hp
          refine s_iald hC dX9_farNow_105 ((fr_9_33 ty_78).2) ho ?_
          exact x_iret hC hE dX9_farNow_106 ⟨_, _, rfl, rfl, hp⟩
        | 5, hi, hx =>
          cases hi
          have hp := hp.2.2.2.2.2.1 hx
          refine x_aload_n hC dX9_farNow_107 (lm 0 rfl) ?_
          refine x_iload_n hC dX9_farNow_108 (lm 1 rfl) ?_
          refine s_callVi (avs := [.int i1]) (st := []) hC dX9_farNow_109 ml_9_303 mi_X9_heldMany ty_78 rfl (t_X9_heldMany  hp) (Nat.le_of_ble_eq_true rfl) ⟨rfl, rfl⟩ ⟨Nat.le_of_ble_eq_true rfl, Nat.le_of_ble_eq_true rfl⟩ (fun v_109 h_109 hp => ?_)
          exact x_iret hC hE dX9_farNow_112 ⟨_, _, rfl, rfl, hp⟩
        | 6, hi, hx =>
          cases hi
          have hp := hp.2.2.2.2.2.2.1 hx
          refine x_aload_n hC dX9_farNow_113 (lm 0 rfl) ?_
          refine s_getR (r := 106) hC dX9_farNow_114 fk_9_92 ty_78 (fr_9_34 ty_78).1 ?_
          refine x_iload_n hC dX9_farNow_117 (lm 1 rfl) ?_
          obtain ⟨ho, hp⟩ := hp
          refine s_iald hC dX9_farNow_118 ((fr_9_34 ty_78).2) ho ?_
          exact x_iret hC hE dX9_farNow_119 ⟨_, _, rfl, rfl, hp⟩
        | i + 7, hi, hx => exact absurd hi (by simp)
    · have hp := hp.2 hc
      refine x_iconst hC dX9_farNow_28 ic_m1 ?_
      exact x_iret hC hE dX9_farNow_29 ⟨_, _, rfl, rfl, hp⟩
  · have hp := hp.2 hc
    refine x_aload_n hC dX9_farNow_4 (lm 0 rfl) ?_
    refine s_getR (r := 99) hC dX9_farNow_5 fk_9_71 ty_78 (fr_9_27 ty_78).1 ?_
    refine x_iload_n hC dX9_farNow_8 (lm 1 rfl) ?_
    obtain ⟨ho, hp⟩ := hp
    refine s_zald hC dX9_farNow_9 ((fr_9_27 ty_78).2) ho ?_
    refine x_if_eq (tgt := 17) hC dX9_farNow_10 (by decide) (fun hc => ?_) (fun hc => ?_)
    · have hp := hp.1 hc
      refine x_iconst hC dX9_farNow_17 ic_0 ?_
      exact x_iret hC hE dX9_farNow_18 ⟨_, _, rfl, rfl, hp⟩
    · have hp := hp.2 hc
      refine x_iconst hC dX9_farNow_13 ic_1 ?_
      refine x_goto (tgt := 18) hC dX9_farNow_14 (by decide) ?_
      exact x_iret hC hE dX9_farNow_18 ⟨_, _, rfl, rfl, hp⟩
