theorem dX9_within_0 : decode cX9_within 0 = .ok (.iload_n 0, 1) := by decide +kernel
theorem dX9_within_1 : decode cX9_within 1 = .ok (.iload_n 1, 1) := by decide +kernel
theorem dX9_within_2 : decode cX9_within 2 = .ok (.if_icmp .lt 12, 3) := by decide +kernel
theorem dX9_within_5 : decode cX9_within 5 = .ok (.iload_n 0, 1) := by decide +kernel
theorem dX9_within_6 : decode cX9_within 6 = .ok (.iload_n 2, 1) := by decide +kernel
theorem dX9_within_7 : decode cX9_within 7 = .ok (.if_icmp .gt 7, 3) := by decide +kernel
theorem dX9_within_10 : decode cX9_within 10 = .ok (.iconst 1, 1) := by decide +kernel
theorem dX9_within_11 : decode cX9_within 11 = .ok (.goto 4, 3) := by decide +kernel
theorem dX9_within_14 : decode cX9_within 14 = .ok (.iconst 0, 1) := by decide +kernel
theorem dX9_within_15 : decode cX9_within 15 = .ok (.ireturn, 1) := by decide +kernel
abbrev rm_X9_within : Room := { frames := 0, cells := 0, slots := 0, locals := 0 }
def P_X9_within (i0 : Int32) (i1 : Int32) (i2 : Int32) (h : HP) (Q : Int32 → HP → Prop) : Prop := ((i0 < i1) → Q 0 h) ∧ ((¬ i0 < i1) → (((i2 < i0) → Q 0 h) ∧ ((¬ i2 < i0) → Q 1 h)))
set_option maxHeartbeats 4000000 in
theorem t_X9_within {i0 : Int32} {i1 : Int32} {i2 : Int32} {h : HP} {Q : Int32 → HP → Prop}  (hp : P_X9_within i0 i1 i2 h Q) : MT yX9_within cX9_within 3 (some .boolean) rm_X9_within [.int i0, .int i1, .int i2] gM SH (emb h) (pI Q) := by
  refine MT.of (by decide +kernel) (Nat.le_of_ble_eq_true rfl) (fun C hC hE => ?_)
  show SW C gM 0 [(0, .int i0), (1, .int i1), (2, .int i2)] [] h
  unfold P_X9_within at hp
  refine x_iload_n hC dX9_within_0 (lm 0 rfl) ?_
  refine x_iload_n hC dX9_within_1 (lm 1 rfl) ?_
  refine x_icmp_lt (tgt := 14) hC dX9_within_2 (by decide) (fun hc => ?_) (fun hc => ?_)
  · have hp := hp.1 hc
    refine x_iconst hC dX9_within_14 ic_0 ?_
    exact x_zret hC hE dX9_within_15 (Or.inl rfl) ⟨_, _, rfl, rfl, hp⟩
  · have hp := hp.2 hc
    refine x_iload_n hC dX9_within_5 (lm 0 rfl) ?_
    refine x_iload_n hC dX9_within_6 (lm 2 rfl) ?_
    refine x_icmp_gt (tgt := 14) hC dX9_within_7 (by decide) (fun hc => ?_) (fun hc => ?_)
    · have hp := hp.1 hc
      refine x_iconst hC dX9_within_14 ic_0 ?_
      exact x_zret hC hE dX9_within_15 (Or.inl rfl) ⟨_, _, rfl, rfl, hp⟩
    · have hp := hp.2 hc
      refine x_iconst hC dX9_within_10 ic_1 ?_
      refine x_goto (tgt := 15) hC dX9_within_11 (by decide) ?_
      exact x_zret hC hE dX9_within_15 (Or.inr rfl) ⟨_, _, rfl, rfl, hp⟩
theorem dX9_ahead_0 : decode cX9_ahead 0 = .ok (.iload_n 1, 1) := by decide +kernel
theorem dX9_ahead_1 : decode cX9_ahead 1 = .ok (.iload_n 0, 1) := by decide +kernel
theorem dX9_ahead_2 : decode cX9_ahead 2 = .ok (.isub, 1) := by decide +kernel
theorem dX9_ahead_3 : decode cX9_ahead 3 = .ok (.bipush 64, 2) := by decide +kernel
theorem dX9_ahead_5 : decode cX9_ahead 5 = .ok (.iadd, 1) := by decide +kernel
theorem dX9_ahead_6 : decode cX9_ahead 6 = .ok (.bipush 64, 2) := by decide +kernel
theorem dX9_ahead_8 : decode cX9_ahead 8 = .ok (.irem, 1) := by decide +kernel
theorem dX9_ahead_9 : decode cX9_ahead 9 = .ok (.ireturn, 1) := by decide +kernel
abbrev rm_X9_ahead : Room := { frames := 0, cells := 0, slots := 0, locals := 0 }
def P_X9_ahead (i0 : Int32) (i1 : Int32) (h : HP) (Q : Int32 → HP → Prop) : Prop := Q (((i1 - i0) + 64) - ((i1 - i0) + 64) / 64 * 64) h
set_option maxHeartbeats 4000000 in
theorem t_X9_ahead {i0 : Int32} {i1 : Int32} {h : HP} {Q : Int32 → HP → Prop}  (hp : P_X9_ahead i0 i1 h Q) : MT yX9_ahead cX9_ahead 2 (some .int) rm_X9_ahead [.int i0, .int i1] gM SH (emb h) (pI Q) := by
  refine MT.of (by decide +kernel) (Nat.le_of_ble_eq_true rfl) (fun C hC hE => ?_)
  show SW C gM 0 [(0, .int i0), (1, .int i1)] [] h
  unfold P_X9_ahead at hp
  refine x_iload_n hC dX9_ahead_0 (lm 1 rfl) ?_
  refine x_iload_n hC dX9_ahead_1 (lm 0 rfl) ?_
  refine x_isub hC dX9_ahead_2 ?_
  refine x_bipush hC dX9_ahead_3 bp_64 ?_
  refine x_iadd hC dX9_ahead_5 ?_
  refine x_bipush hC dX9_ahead_6 bp_64 ?_
  refine x_irem hC dX9_ahead_8 (by decide) ?_
  exact x_iret hC hE dX9_ahead_9 ⟨_, _, rfl, rfl, hp⟩
theorem dX9_isBehind_0 : decode cX9_isBehind 0 = .ok (.iload_n 0, 1) := by decide +kernel
theorem dX9_isBehind_1 : decode cX9_isBehind 1 = .ok (.iload_n 1, 1) := by decide +kernel
theorem dX9_isBehind_2 : decode cX9_isBehind 2 = .ok (.invokestatic 119, 3) := by decide +kernel
theorem dX9_isBehind_5 : decode cX9_isBehind 5 = .ok (.bipush 32, 2) := by decide +kernel
theorem dX9_isBehind_7 : decode cX9_isBehind 7 = .ok (.if_icmp .lt 7, 3) := by decide +kernel
theorem dX9_isBehind_10 : decode cX9_isBehind 10 = .ok (.iconst 1, 1) := by decide +kernel
theorem dX9_isBehind_11 : decode cX9_isBehind 11 = .ok (.goto 4, 3) := by decide +kernel
theorem dX9_isBehind_14 : decode cX9_isBehind 14 = .ok (.iconst 0, 1) := by decide +kernel
theorem dX9_isBehind_15 : decode cX9_isBehind 15 = .ok (.ireturn, 1) := by decide +kernel
abbrev rm_X9_isBehind : Room := { frames := 1, cells := 0, slots := 0, locals := 21 }
def P_X9_isBehind (i0 : Int32) (i1 : Int32) (h : HP) (Q : Int32 → HP → Prop) : Prop := P_X9_ahead i0 i1 h (fun (v_2 : Int32) (h_2 : HP) => ((v_2 < 32) → Q 0 h_2) ∧ ((¬ v_2 < 32) → Q 1 h_2))
set_option maxHeartbeats 4000000 in
theorem t_X9_isBehind {i0 : Int32} {i1 : Int32} {h : HP} {Q : Int32 → HP → Prop}  (hp : P_X9_isBehind i0 i1 h Q) : MT yX9_isBehind cX9_isBehind 2 (some .boolean) rm_X9_isBehind [.int i0, .int i1] gM SH (emb h) (pI Q) := by
  refine MT.of (by decide +kernel) (Nat.le_of_ble_eq_true rfl) (fun C hC hE => ?_)
  show SW C gM 0 [(0, .int i0), (1, .int i1)] [] h
  unfold P_X9_isBehind at hp
  refine x_iload_n hC dX9_isBehind_0 (lm 0 rfl) ?_
  refine x_iload_n hC dX9_isBehind_1 (lm 1 rfl) ?_
  refine s_callSi (avs := [.int i0, .int i1]) (st := []) hC dX9_isBehind_2 ml_9_119 ms_X9_ahead rfl (t_X9_ahead  hp) (Nat.le_of_ble_eq_true rfl) ⟨rfl, rfl⟩ ⟨Nat.le_of_ble_eq_true rfl, Nat.le_of_ble_eq_true rfl⟩ (fun v_2 h_2 hp => ?_)
  refine x_bipush hC dX9_isBehind_5 bp_32 ?_
  refine x_icmp_lt (tgt := 14) hC dX9_isBehind_7 (by decide) (fun hc => ?_) (fun hc => ?_)
  · have hp := hp.1 hc
    refine x_iconst hC dX9_isBehind_14 ic_0 ?_
    exact x_zret hC hE dX9_isBehind_15 (Or.inl rfl) ⟨_, _, rfl, rfl, hp⟩
  · have hp := hp.2 hc
    refine x_iconst hC dX9_isBehind_10 ic_1 ?_
    refine x_goto (tgt := 15) hC dX9_isBehind_11 (by decide) ?_
    exact x_zret hC hE dX9_isBehind_15 (Or.inr rfl) ⟨_, _, rfl, rfl, hp⟩
theorem dX9_letter_0 : decode cX9_letter 0 = .ok (.iload_n 1, 1) := by decide +kernel
theorem dX9_letter_1 : decode cX9_letter 1 = .ok (.bipush 32, 2) := by decide +kernel
theorem dX9_letter_3 : decode cX9_letter 3 = .ok (.bipush 126, 2) := by decide +kernel
theorem dX9_letter_5 : decode cX9_letter 5 = .ok (.invokestatic 123, 3) := by decide +kernel
theorem dX9_letter_8 : decode cX9_letter 8 = .ok (.ifCond .ne 6, 3) := by decide +kernel
theorem dX9_letter_11 : decode cX9_letter 11 = .ok (.bipush (-102), 2) := by decide +kernel
theorem dX9_letter_13 : decode cX9_letter 13 = .ok (.ireturn, 1) := by decide +kernel
theorem dX9_letter_14 : decode cX9_letter 14 = .ok (.aload_n 0, 1) := by decide +kernel
theorem dX9_letter_15 : decode cX9_letter 15 = .ok (.getfield 127, 3) := by decide +kernel
theorem dX9_letter_18 : decode cX9_letter 18 = .ok (.bipush 9, 2) := by decide +kernel
theorem dX9_letter_20 : decode cX9_letter 20 = .ok (.if_icmp .ne 6, 3) := by decide +kernel
theorem dX9_letter_23 : decode cX9_letter 23 = .ok (.bipush (-104), 2) := by decide +kernel
theorem dX9_letter_25 : decode cX9_letter 25 = .ok (.ireturn, 1) := by decide +kernel
theorem dX9_letter_26 : decode cX9_letter 26 = .ok (.aload_n 0, 1) := by decide +kernel
theorem dX9_letter_27 : decode cX9_letter 27 = .ok (.getfield 7, 3) := by decide +kernel
theorem dX9_letter_30 : decode cX9_letter 30 = .ok (.aload_n 0, 1) := by decide +kernel
theorem dX9_letter_31 : decode cX9_letter 31 = .ok (.getfield 127, 3) := by decide +kernel
theorem dX9_letter_34 : decode cX9_letter 34 = .ok (.iload_n 1, 1) := by decide +kernel
theorem dX9_letter_35 : decode cX9_letter 35 = .ok (.iastore, 1) := by decide +kernel
theorem dX9_letter_36 : decode cX9_letter 36 = .ok (.aload_n 0, 1) := by decide +kernel
theorem dX9_letter_37 : decode cX9_letter 37 = .ok (.dup, 1) := by decide +kernel
theorem dX9_letter_38 : decode cX9_letter 38 = .ok (.getfield 127, 3) := by decide +kernel
theorem dX9_letter_41 : decode cX9_letter 41 = .ok (.iconst 1, 1) := by decide +kernel
theorem dX9_letter_42 : decode cX9_letter 42 = .ok (.iadd, 1) := by decide +kernel
theorem dX9_letter_43 : decode cX9_letter 43 = .ok (.putfield 127, 3) := by decide +kernel
theorem dX9_letter_46 : decode cX9_letter 46 = .ok (.aload_n 0, 1) := by decide +kernel
theorem dX9_letter_47 : decode cX9_letter 47 = .ok (.getfield 127, 3) := by decide +kernel
theorem dX9_letter_50 : decode cX9_letter 50 = .ok (.ireturn, 1) := by decide +kernel
abbrev rm_X9_letter : Room := { frames := 1, cells := 0, slots := 0, locals := 22 }
def P_X9_letter (i1 : Int32) (h : HP) (Q : Int32 → HP → Prop) : Prop := P_X9_within i1 32 126 h (fun (v_5 : Int32) (h_5 : HP) => ((¬ v_5 = 0) → (((¬ (h_5.1 78 6) = 9) → ((vp_in (h_5.1 78 6) 9) ∧ (Q ((si (si h_5 79 (h_5.1 78 6).toNatClampNeg i1) 78 6 (((si h_5 79 (h_5.1 78 6).toNatClampNeg i1).1 78 6) + 1)).1 78 6) (si (si h_5 79 (h_5.1 78 6).toNatClampNeg i1) 78 6 (((si h_5 79 (h_5.1 78 6).toNatClampNeg i1).1 78 6) + 1))))) ∧ (((h_5.1 78 6) = 9) → (Q (-104) h_5)))) ∧ ((v_5 = 0) → (Q (-102) h_5)))
set_option maxHeartbeats 4000000 in
theorem t_X9_letter {i1 : Int32} {h : HP} {Q : Int32 → HP → Prop}  (hp : P_X9_letter i1 h Q) : MT yX9_letter cX9_letter 2 (some .int) rm_X9_letter [.ref 78, .int i1] gM SH (emb h) (pI Q) := by
  refine MT.of (by decide +kernel) (Nat.le_of_ble_eq_true rfl) (fun C hC hE => ?_)
  show SW C gM 0 [(0, .ref 78), (1, .int i1)] [] h
  unfold P_X9_letter at hp
  refine x_iload_n hC dX9_letter_0 (lm 1 rfl) ?_
  refine x_bipush hC dX9_letter_1 bp_32 ?_
  refine x_bipush hC dX9_letter_3 bp_126 ?_
  refine s_callSi (avs := [.int i1, .int 32, .int 126]) (st := []) hC dX9_letter_5 ml_9_123 ms_X9_within rfl (t_X9_within  hp) (Nat.le_of_ble_eq_true rfl) ⟨rfl, rfl⟩ ⟨Nat.le_of_ble_eq_true rfl, Nat.le_of_ble_eq_true rfl⟩ (fun v_5 h_5 hp => ?_)
  refine x_if_ne (tgt := 14) hC dX9_letter_8 (by decide) (fun hc => ?_) (fun hc => ?_)
  · have hp := hp.1 hc
    refine x_aload_n hC dX9_letter_14 (lm 0 rfl) ?_
    refine s_getI hC dX9_letter_15 fk_9_127 ty_78 ?_
    refine x_bipush hC dX9_letter_18 bp_9 ?_
    refine x_icmp_ne (tgt := 26) hC dX9_letter_20 (by decide) (fun hc => ?_) (fun hc => ?_)
    · have hp := hp.1 hc
      refine x_aload_n hC dX9_letter_26 (lm 0 rfl) ?_
      refine s_getR (r := 79) hC dX9_letter_27 fk_9_7 ty_78 (fr_9_7 ty_78).1 ?_
      refine x_aload_n hC dX9_letter_30 (lm 0 rfl) ?_
      refine s_getI hC dX9_letter_31 fk_9_127 ty_78 ?_
      refine x_iload_n hC dX9_letter_34 (lm 1 rfl) ?_
      obtain ⟨ho, hp⟩ := hp
      refine s_iast hC dX9_letter_35 ((fr_9_7 ty_78).2) ho ?_
      refine x_aload_n hC dX9_letter_36 (lm 0 rfl) ?_
      refine x_dup hC dX9_letter_37 rfl ?_
      refine s_getI hC dX9_letter_38 fk_9_127 ty_78 ?_
      refine x_iconst hC dX9_letter_41 ic_1 ?_
      refine x_iadd hC dX9_letter_42 ?_
      refine s_putI hC dX9_letter_43 fk_9_127 rfl rfl ty_78 ?_
      refine x_aload_n hC dX9_letter_46 (lm 0 rfl) ?_
      refine s_getI hC dX9_letter_47 fk_9_127 ty_78 ?_
      exact x_iret hC hE dX9_letter_50 ⟨_, _, rfl, rfl, hp⟩
    · have hp := hp.2 hc
      refine x_bipush hC dX9_letter_23 bp_m104 ?_
      exact x_iret hC hE dX9_letter_25 ⟨_, _, rfl, rfl, hp⟩
  · have hp := hp.2 hc
    refine x_bipush hC dX9_letter_11 bp_m102 ?_
    exact x_iret hC hE dX9_letter_13 ⟨_, _, rfl, rfl, hp⟩
theorem dX9_blank_0 : decode cX9_blank 0 = .ok (.aload_n 0, 1) := by decide +kernel
theorem dX9_blank_1 : decode cX9_blank 1 = .ok (.getfield 127, 3) := by decide +kernel
theorem dX9_blank_4 : decode cX9_blank 4 = .ok (.istore_n 1, 1) := by decide +kernel
theorem dX9_blank_5 : decode cX9_blank 5 = .ok (.aload_n 0, 1) := by decide +kernel
theorem dX9_blank_6 : decode cX9_blank 6 = .ok (.iconst 0, 1) := by decide +kernel
theorem dX9_blank_7 : decode cX9_blank 7 = .ok (.putfield 127, 3) := by decide +kernel
theorem dX9_blank_10 : decode cX9_blank 10 = .ok (.iload_n 1, 1) := by decide +kernel
theorem dX9_blank_11 : decode cX9_blank 11 = .ok (.ireturn, 1) := by decide +kernel
abbrev rm_X9_blank : Room := { frames := 0, cells := 0, slots := 0, locals := 0 }
def P_X9_blank  (h : HP) (Q : Int32 → HP → Prop) : Prop := Q (h.1 78 6) (si h 78 6 0)
set_option maxHeartbeats 4000000 in
theorem t_X9_blank  {h : HP} {Q : Int32 → HP → Prop}  (hp : P_X9_blank  h Q) : MT yX9_blank cX9_blank 2 (some .int) rm_X9_blank [.ref 78] gM SH (emb h) (pI Q) := by
  refine MT.of (by decide +kernel) (Nat.le_of_ble_eq_true rfl) (fun C hC hE => ?_)
  show SW C gM 0 [(0, .ref 78)] [] h
  unfold P_X9_blank at hp
  refine x_aload_n hC dX9_blank_0 (lm 0 rfl) ?_
  refine s_getI hC dX9_blank_1 fk_9_127 ty_78 ?_
  refine x_istore_n (lv' := [(1, .int (h.1 78 6)), (0, .ref 78)]) hC dX9_blank_4 (by decide) rfl ?_
  refine x_aload_n hC dX9_blank_5 (lm 1 rfl) ?_
  refine x_iconst hC dX9_blank_6 ic_0 ?_
  refine s_putI hC dX9_blank_7 fk_9_127 rfl rfl ty_78 ?_
  refine x_iload_n hC dX9_blank_10 (lm 0 rfl) ?_
  exact x_iret hC hE dX9_blank_11 ⟨_, _, rfl, rfl, hp⟩
theorem dX9_fitsAt_0 : decode cX9_fitsAt 0 = .ok (.iload_n 0, 1) := by decide +kernel
theorem dX9_fitsAt_1 : decode cX9_fitsAt 1 = .ok (.tableswitch 106 0 6 #[43, 52, 64, 73, 43, 85, 97], 43) := by decide +kernel
theorem dX9_fitsAt_44 : decode cX9_fitsAt 44 = .ok (.iload_n 1, 1) := by decide +kernel
theorem dX9_fitsAt_45 : decode cX9_fitsAt 45 = .ok (.bipush 49, 2) := by decide +kernel
theorem dX9_fitsAt_47 : decode cX9_fitsAt 47 = .ok (.bipush 57, 2) := by decide +kernel
theorem dX9_fitsAt_49 : decode cX9_fitsAt 49 = .ok (.invokestatic 123, 3) := by decide +kernel
theorem dX9_fitsAt_52 : decode cX9_fitsAt 52 = .ok (.ireturn, 1) := by decide +kernel
theorem dX9_fitsAt_53 : decode cX9_fitsAt 53 = .ok (.iload_n 1, 1) := by decide +kernel
theorem dX9_fitsAt_54 : decode cX9_fitsAt 54 = .ok (.bipush 43, 2) := by decide +kernel
theorem dX9_fitsAt_56 : decode cX9_fitsAt 56 = .ok (.if_icmp .ne 7, 3) := by decide +kernel
theorem dX9_fitsAt_59 : decode cX9_fitsAt 59 = .ok (.iconst 1, 1) := by decide +kernel
theorem dX9_fitsAt_60 : decode cX9_fitsAt 60 = .ok (.goto 4, 3) := by decide +kernel
theorem dX9_fitsAt_63 : decode cX9_fitsAt 63 = .ok (.iconst 0, 1) := by decide +kernel
theorem dX9_fitsAt_64 : decode cX9_fitsAt 64 = .ok (.ireturn, 1) := by decide +kernel
theorem dX9_fitsAt_65 : decode cX9_fitsAt 65 = .ok (.iload_n 1, 1) := by decide +kernel
theorem dX9_fitsAt_66 : decode cX9_fitsAt 66 = .ok (.bipush 48, 2) := by decide +kernel
theorem dX9_fitsAt_68 : decode cX9_fitsAt 68 = .ok (.bipush 57, 2) := by decide +kernel
theorem dX9_fitsAt_70 : decode cX9_fitsAt 70 = .ok (.invokestatic 123, 3) := by decide +kernel
theorem dX9_fitsAt_73 : decode cX9_fitsAt 73 = .ok (.ireturn, 1) := by decide +kernel
theorem dX9_fitsAt_74 : decode cX9_fitsAt 74 = .ok (.iload_n 1, 1) := by decide +kernel
theorem dX9_fitsAt_75 : decode cX9_fitsAt 75 = .ok (.bipush 42, 2) := by decide +kernel
theorem dX9_fitsAt_77 : decode cX9_fitsAt 77 = .ok (.if_icmp .ne 7, 3) := by decide +kernel
theorem dX9_fitsAt_80 : decode cX9_fitsAt 80 = .ok (.iconst 1, 1) := by decide +kernel
theorem dX9_fitsAt_81 : decode cX9_fitsAt 81 = .ok (.goto 4, 3) := by decide +kernel
theorem dX9_fitsAt_84 : decode cX9_fitsAt 84 = .ok (.iconst 0, 1) := by decide +kernel
theorem dX9_fitsAt_85 : decode cX9_fitsAt 85 = .ok (.ireturn, 1) := by decide +kernel
theorem dX9_fitsAt_86 : decode cX9_fitsAt 86 = .ok (.iload_n 1, 1) := by decide +kernel
theorem dX9_fitsAt_87 : decode cX9_fitsAt 87 = .ok (.bipush 58, 2) := by decide +kernel
theorem dX9_fitsAt_89 : decode cX9_fitsAt 89 = .ok (.if_icmp .ne 7, 3) := by decide +kernel
theorem dX9_fitsAt_92 : decode cX9_fitsAt 92 = .ok (.iconst 1, 1) := by decide +kernel
theorem dX9_fitsAt_93 : decode cX9_fitsAt 93 = .ok (.goto 4, 3) := by decide +kernel
theorem dX9_fitsAt_96 : decode cX9_fitsAt 96 = .ok (.iconst 0, 1) := by decide +kernel
theorem dX9_fitsAt_97 : decode cX9_fitsAt 97 = .ok (.ireturn, 1) := by decide +kernel
theorem dX9_fitsAt_98 : decode cX9_fitsAt 98 = .ok (.iload_n 1, 1) := by decide +kernel
theorem dX9_fitsAt_99 : decode cX9_fitsAt 99 = .ok (.bipush 49, 2) := by decide +kernel
theorem dX9_fitsAt_101 : decode cX9_fitsAt 101 = .ok (.bipush 56, 2) := by decide +kernel
theorem dX9_fitsAt_103 : decode cX9_fitsAt 103 = .ok (.invokestatic 123, 3) := by decide +kernel
theorem dX9_fitsAt_106 : decode cX9_fitsAt 106 = .ok (.ireturn, 1) := by decide +kernel
theorem dX9_fitsAt_107 : decode cX9_fitsAt 107 = .ok (.iconst 0, 1) := by decide +kernel
theorem dX9_fitsAt_108 : decode cX9_fitsAt 108 = .ok (.ireturn, 1) := by decide +kernel
abbrev rm_X9_fitsAt : Room := { frames := 1, cells := 0, slots := 0, locals := 22 }
def P_X9_fitsAt (i0 : Int32) (i1 : Int32) (h : HP) (Q : Int32 → HP → Prop) : Prop := (i0.toInt = 0 → (P_X9_within i1 49 57 h (fun (v_49 : Int32) (h_49 : HP) => (v_49 = 0 ∨ v_49 = 1) ∧ Q v_49 h_49))) ∧ (i0.toInt = 1 → (((¬ i1 = 43) → Q 0 h) ∧ ((i1 = 43) → Q 1 h))) ∧ (i0.toInt = 2 → (P_X9_within i1 48 57 h (fun (v_70 : Int32) (h_70 : HP) => (v_70 = 0 ∨ v_70 = 1) ∧ Q v_70 h_70))) ∧ (i0.toInt = 3 → (((¬ i1 = 42) → Q 0 h) ∧ ((i1 = 42) → Q 1 h))) ∧ (i0.toInt = 4 → (P_X9_within i1 49 57 h (fun (v_49 : Int32) (h_49 : HP) => (v_49 = 0 ∨ v_49 = 1) ∧ Q v_49 h_49))) ∧ (i0.toInt = 5 → (((¬ i1 = 58) → Q 0 h) ∧ ((i1 = 58) → Q 1 h))) ∧ (i0.toInt = 6 → (P_X9_within i1 49 56 h (fun (v_103 : Int32) (h_103 : HP) => (v_103 = 0 ∨ v_103 = 1) ∧ Q v_103 h_103))) ∧ ((i0.toInt < 0 ∨ 6 < i0.toInt) → Q 0 h)
set_option maxHeartbeats 4000000 in
theorem t_X9_fitsAt {i0 : Int32} {i1 : Int32} {h : HP} {Q : Int32 → HP → Prop}  (hp : P_X9_fitsAt i0 i1 h Q) : MT yX9_fitsAt cX9_fitsAt 2 (some .boolean) rm_X9_fitsAt [.int i0, .int i1] gM SH (emb h) (pI Q) := by
  refine MT.of (by decide +kernel) (Nat.le_of_ble_eq_true rfl) (fun C hC hE => ?_)
  show SW C gM 0 [(0, .int i0), (1, .int i1)] [] h
  unfold P_X9_fitsAt at hp
  refine x_iload_n hC dX9_fitsAt_0 (lm 0 rfl) ?_
  refine x_tsw (tgt := 107) hC dX9_fitsAt_1 [44, 53, 65, 74, 44, 86, 98] (by decide) (by decide) (by decide) (fun hc => ?_) (fun i t hi hx => ?_)
  · have hp := hp.2.2.2.2.2.2.2 hc
    refine x_iconst hC dX9_fitsAt_107 ic_0 ?_
    exact x_zret hC hE dX9_fitsAt_108 (Or.inl rfl) ⟨_, _, rfl, rfl, hp⟩
  · match i, hi, hx with
    | 0, hi, hx =>
      cases hi
      have hp := hp.1 hx
      refine x_iload_n hC dX9_fitsAt_44 (lm 1 rfl) ?_
      refine x_bipush hC dX9_fitsAt_45 bp_49 ?_
      refine x_bipush hC dX9_fitsAt_47 bp_57 ?_
      refine s_callSi (avs := [.int i1, .int 49, .int 57]) (st := []) hC dX9_fitsAt_49 ml_9_123 ms_X9_within rfl (t_X9_within  hp) (Nat.le_of_ble_eq_true rfl) ⟨rfl, rfl⟩ ⟨Nat.le_of_ble_eq_true rfl, Nat.le_of_ble_eq_true rfl⟩ (fun v_49 h_49 hp => ?_)
      obtain ⟨ho, hp⟩ := hp
      exact x_zret hC hE dX9_fitsAt_52 ho ⟨_, _, rfl, rfl, hp⟩
    | 1, hi, hx =>
      cases hi
      have hp := hp.2.1 hx
      refine x_iload_n hC dX9_fitsAt_53 (lm 1 rfl) ?_
      refine x_bipush hC dX9_fitsAt_54 bp_43 ?_
      refine x_icmp_ne (tgt := 63) hC dX9_fitsAt_56 (by decide) (fun hc => ?_) (fun hc => ?_)
      · have hp := hp.1 hc
        refine x_iconst hC dX9_fitsAt_63 ic_0 ?_
        exact x_zret hC hE dX9_fitsAt_64 (Or.inl rfl) ⟨_, _, rfl, rfl, hp⟩
      · have hp := hp.2 hc
        refine x_iconst hC dX9_fitsAt_59 ic_1 ?_
        refine x_goto (tgt := 64) hC dX9_fitsAt_60 (by decide) ?_
        exact x_zret hC hE dX9_fitsAt_64 (Or.inr rfl) ⟨_, _, rfl, rfl, hp⟩
    | 2, hi, hx =>
      cases hi
      have hp := hp.2.2.1 hx
      refine x_iload_n hC dX9_fitsAt_65 (lm 1 rfl) ?_
      refine x_bipush hC dX9_fitsAt_66 bp_48 ?_
      refine x_bipush hC dX9_fitsAt_68 bp_57 ?_
      refine s_callSi (avs := [.int i1, .int 48, .int 57]) (st := []) hC dX9_fitsAt_70 ml_9_123 ms_X9_within rfl (t_X9_within  hp) (Nat.le_of_ble_eq_true rfl) ⟨rfl, rfl⟩ ⟨Nat.le_of_ble_eq_true rfl, Nat.le_of_ble_eq_true rfl⟩ (fun v_70 h_70 hp => ?_)
      obtain ⟨ho, hp⟩ := hp
      exact x_zret hC hE dX9_fitsAt_73 ho ⟨_, _, rfl, rfl, hp⟩
    | 3, hi, hx =>
      cases hi
      have hp := hp.2.2.2.1 hx
      refine x_iload_n hC dX9_fitsAt_74 (lm 1 rfl) ?_
      refine x_bipush hC dX9_fitsAt_75 bp_42 ?_
      refine x_icmp_ne (tgt := 84) hC dX9_fitsAt_77 (by decide) (fun hc => ?_) (fun hc => ?_)
      · have hp := hp.1 hc
        refine x_iconst hC dX9_fitsAt_84 ic_0 ?_
        exact x_zret hC hE dX9_fitsAt_85 (Or.inl rfl) ⟨_, _, rfl, rfl, hp⟩
      · have hp := hp.2 hc
        refine x_iconst hC dX9_fitsAt_80 ic_1 ?_
        refine x_goto (tgt := 85) hC dX9_fitsAt_81 (by decide) ?_
        exact x_zret hC hE dX9_fitsAt_85 (Or.inr rfl) ⟨_, _, rfl, rfl, hp⟩
    | 4, hi, hx =>
      cases hi
      have hp := hp.2.2.2.2.1 hx
      refine x_iload_n hC dX9_fitsAt_44 (lm 1 rfl) ?_
      refine x_bipush hC dX9_fitsAt_45 bp_49 ?_
      refine x_bipush hC dX9_fitsAt_47 bp_57 ?_
      refine s_callSi (avs := [.int i1, .int 49, .int 57]) (st := []) hC dX9_fitsAt_49 ml_9_123 ms_X9_within rfl (t_X9_within  hp) (Nat.le_of_ble_eq_true rfl) ⟨rfl, rfl⟩ ⟨Nat.le_of_ble_eq_true rfl, Nat.le_of_ble_eq_true rfl⟩ (fun v_49 h_49 hp => ?_)
      obtain ⟨ho, hp⟩ := hp
      exact x_zret hC hE dX9_fitsAt_52 ho ⟨_, _, rfl, rfl, hp⟩
    | 5, hi, hx =>
      cases hi
      have hp := hp.2.2.2.2.2.1 hx
      refine x_iload_n hC dX9_fitsAt_86 (lm 1 rfl) ?_
      refine x_bipush hC dX9_fitsAt_87 bp_58 ?_
      refine x_icmp_ne (tgt := 96) hC dX9_fitsAt_89 (by decide) (fun hc => ?_) (fun hc => ?_)
      · have hp := hp.1 hc
        refine x_iconst hC dX9_fitsAt_96 ic_0 ?_
        exact x_zret hC hE dX9_fitsAt_97 (Or.inl rfl) ⟨_, _, rfl, rfl, hp⟩
      · have hp := hp.2 hc
        refine x_iconst hC dX9_fitsAt_92 ic_1 ?_
        refine x_goto (tgt := 97) hC dX9_fitsAt_93 (by decide) ?_
        exact x_zret hC hE dX9_fitsAt_97 (Or.inr rfl) ⟨_, _, rfl, rfl, hp⟩
    | 6, hi, hx =>
      cases hi
      have hp := hp.2.2.2.2.2.2.1 hx
      refine x_iload_n hC dX9_fitsAt_98 (lm 1 rfl) ?_
      refine x_bipush hC dX9_fitsAt_99 bp_49 ?_
      refine x_bipush hC dX9_fitsAt_101 bp_56 ?_
      refine s_callSi (avs := [.int i1, .int 49, .int 56]) (st := []) hC dX9_fitsAt_103 ml_9_123 ms_X9_within rfl (t_X9_within  hp) (Nat.le_of_ble_eq_true rfl) ⟨rfl, rfl⟩ ⟨Nat.le_of_ble_eq_true rfl, Nat.le_of_ble_eq_true rfl⟩ (fun v_103 h_103 hp => ?_)
      obtain ⟨ho, hp⟩ := hp
      exact x_zret hC hE dX9_fitsAt_106 ho ⟨_, _, rfl, rfl, hp⟩
    | i + 7, hi, hx => exact absurd hi (by simp)
theorem dX9_faultNow_0 : decode cX9_faultNow 0 = .ok (.iconst 0, 1) := by decide +kernel
theorem dX9_faultNow_1 : decode cX9_faultNow 1 = .ok (.istore_n 1, 1) := by decide +kernel
theorem dX9_faultNow_2 : decode cX9_faultNow 2 = .ok (.iload_n 1, 1) := by decide +kernel
theorem dX9_faultNow_3 : decode cX9_faultNow 3 = .ok (.aload_n 0, 1) := by decide +kernel
theorem dX9_faultNow_4 : decode cX9_faultNow 4 = .ok (.getfield 127, 3) := by decide +kernel
theorem dX9_faultNow_7 : decode cX9_faultNow 7 = .ok (.if_icmp .ge 22, 3) := by decide +kernel
theorem dX9_faultNow_10 : decode cX9_faultNow 10 = .ok (.iload_n 1, 1) := by decide +kernel
theorem dX9_faultNow_11 : decode cX9_faultNow 11 = .ok (.aload_n 0, 1) := by decide +kernel
theorem dX9_faultNow_12 : decode cX9_faultNow 12 = .ok (.getfield 7, 3) := by decide +kernel
theorem dX9_faultNow_15 : decode cX9_faultNow 15 = .ok (.iload_n 1, 1) := by decide +kernel
theorem dX9_faultNow_16 : decode cX9_faultNow 16 = .ok (.iaload, 1) := by decide +kernel
theorem dX9_faultNow_17 : decode cX9_faultNow 17 = .ok (.invokestatic 131, 3) := by decide +kernel
theorem dX9_faultNow_20 : decode cX9_faultNow 20 = .ok (.ifCond .eq 9, 3) := by decide +kernel
theorem dX9_faultNow_23 : decode cX9_faultNow 23 = .ok (.iinc 1 1, 3) := by decide +kernel
theorem dX9_faultNow_26 : decode cX9_faultNow 26 = .ok (.goto (-24), 3) := by decide +kernel
theorem dX9_faultNow_29 : decode cX9_faultNow 29 = .ok (.iload_n 1, 1) := by decide +kernel
theorem dX9_faultNow_30 : decode cX9_faultNow 30 = .ok (.ireturn, 1) := by decide +kernel
abbrev rm_X9_faultNow : Room := { frames := 2, cells := 0, slots := 0, locals := 43 }
def P_X9_faultNow  (h : HP) (Q : Int32 → HP → Prop) : Prop := Lp2 (fun X_2 (i1_2 : Int32) (h_2 : HP) => (((h_2.1 78 6) ≤ i1_2) → Q i1_2 h_2) ∧ ((¬ (h_2.1 78 6) ≤ i1_2) → ((vp_in i1_2 9) ∧ (P_X9_fitsAt i1_2 (h_2.1 79 i1_2.toNatClampNeg) h_2 (fun (v_17 : Int32) (h_17 : HP) => ((v_17 = 0) → Q i1_2 h_17) ∧ ((¬ v_17 = 0) → (X_2 (i1_2 + 1) h_17))))))) 0 h
set_option maxHeartbeats 4000000 in
theorem t_X9_faultNow  {h : HP} {Q : Int32 → HP → Prop}  (hp : P_X9_faultNow  h Q) : MT yX9_faultNow cX9_faultNow 2 (some .int) rm_X9_faultNow [.ref 78] gM SH (emb h) (pI Q) := by
  refine MT.of (by decide +kernel) (Nat.le_of_ble_eq_true rfl) (fun C hC hE => ?_)
  show SW C gM 0 [(0, .ref 78)] [] h
  unfold P_X9_faultNow at hp
  refine x_iconst hC dX9_faultNow_0 ic_0 ?_
  refine x_istore_n (lv' := [(1, .int 0), (0, .ref 78)]) hC dX9_faultNow_1 (by decide) rfl ?_
  refine x_subk (lv' := [(0, .ref 78), (1, .int 0)]) [1, 0] rfl ?_
  refine hp (fun i1_2 h_2 => SW C gM 2 [(0, .ref 78), (1, .int i1_2)] [] h_2) (fun i1_2 h_2 hp => ?_)
  refine x_iload_n hC dX9_faultNow_2 (lm 1 rfl) ?_
  refine x_aload_n hC dX9_faultNow_3 (lm 0 rfl) ?_
  refine s_getI hC dX9_faultNow_4 fk_9_127 ty_78 ?_
  refine x_icmp_ge (tgt := 29) hC dX9_faultNow_7 (by decide) (fun hc => ?_) (fun hc => ?_)
  · have hp := hp.1 hc
    refine x_iload_n hC dX9_faultNow_29 (lm 1 rfl) ?_
    exact x_iret hC hE dX9_faultNow_30 ⟨_, _, rfl, rfl, hp⟩
  · have hp := hp.2 hc
    refine x_iload_n hC dX9_faultNow_10 (lm 1 rfl) ?_
    refine x_aload_n hC dX9_faultNow_11 (lm 0 rfl) ?_
    refine s_getR (r := 79) hC dX9_faultNow_12 fk_9_7 ty_78 (fr_9_7 ty_78).1 ?_
    refine x_iload_n hC dX9_faultNow_15 (lm 1 rfl) ?_
    obtain ⟨ho, hp⟩ := hp
    refine s_iald hC dX9_faultNow_16 ((fr_9_7 ty_78).2) ho ?_
    refine s_callSi (avs := [.int i1_2, .int (h_2.1 79 i1_2.toNatClampNeg)]) (st := []) hC dX9_faultNow_17 ml_9_131 ms_X9_fitsAt rfl (t_X9_fitsAt  hp) (Nat.le_of_ble_eq_true rfl) ⟨rfl, rfl⟩ ⟨Nat.le_of_ble_eq_true rfl, Nat.le_of_ble_eq_true rfl⟩ (fun v_17 h_17 hp => ?_)
    refine x_if_eq (tgt := 29) hC dX9_faultNow_20 (by decide) (fun hc => ?_) (fun hc => ?_)
    · have hp := hp.1 hc
      refine x_iload_n hC dX9_faultNow_29 (lm 1 rfl) ?_
      exact x_iret hC hE dX9_faultNow_30 ⟨_, _, rfl, rfl, hp⟩
    · have hp := hp.2 hc
      refine x_iinc (u := i1_2 + 1) (lv' := [(1, .int (i1_2 + 1)), (0, .ref 78)]) hC dX9_faultNow_23 (lm 1 rfl) (congrArg _ ic_1) (by decide) rfl ?_
      refine x_goto (tgt := 2) hC dX9_faultNow_26 (by decide) ?_
      exact x_subk [1, 0] rfl hp
theorem dX9_fault_0 : decode cX9_fault 0 = .ok (.aload_n 0, 1) := by decide +kernel
theorem dX9_fault_1 : decode cX9_fault 1 = .ok (.invokevirtual 135, 3) := by decide +kernel
theorem dX9_fault_4 : decode cX9_fault 4 = .ok (.ireturn, 1) := by decide +kernel
abbrev rm_X9_fault : Room := { frames := 3, cells := 0, slots := 0, locals := 64 }
def P_X9_fault  (h : HP) (Q : Int32 → HP → Prop) : Prop := P_X9_faultNow h (fun (v_1 : Int32) (h_1 : HP) => Q v_1 h_1)
set_option maxHeartbeats 4000000 in
theorem t_X9_fault  {h : HP} {Q : Int32 → HP → Prop}  (hp : P_X9_fault  h Q) : MT yX9_fault cX9_fault 1 (some .int) rm_X9_fault [.ref 78] gM SH (emb h) (pI Q) := by
  refine MT.of (by decide +kernel) (Nat.le_of_ble_eq_true rfl) (fun C hC hE => ?_)
  show SW C gM 0 [(0, .ref 78)] [] h
  unfold P_X9_fault at hp
  refine x_aload_n hC dX9_fault_0 (lm 0 rfl) ?_
  refine s_callVi (avs := []) (st := []) hC dX9_fault_1 ml_9_135 mi_X9_faultNow ty_78 rfl (t_X9_faultNow  hp) (Nat.le_of_ble_eq_true rfl) ⟨rfl, rfl⟩ ⟨Nat.le_of_ble_eq_true rfl, Nat.le_of_ble_eq_true rfl⟩ (fun v_1 h_1 hp => ?_)
  exact x_iret hC hE dX9_fault_4 ⟨_, _, rfl, rfl, hp⟩
theorem dX9_air_0 : decode cX9_air 0 = .ok (.aload_n 0, 1) := by decide +kernel
theorem dX9_air_1 : decode cX9_air 1 = .ok (.getfield 127, 3) := by decide +kernel
theorem dX9_air_4 : decode cX9_air 4 = .ok (.bipush 7, 2) := by decide +kernel
theorem dX9_air_6 : decode cX9_air 6 = .ok (.if_icmp .ne 12, 3) := by decide +kernel
theorem dX9_air_9 : decode cX9_air 9 = .ok (.aload_n 0, 1) := by decide +kernel
theorem dX9_air_10 : decode cX9_air 10 = .ok (.invokevirtual 135, 3) := by decide +kernel
theorem dX9_air_13 : decode cX9_air 13 = .ok (.bipush 7, 2) := by decide +kernel
theorem dX9_air_15 : decode cX9_air 15 = .ok (.if_icmp .eq 6, 3) := by decide +kernel
theorem dX9_air_18 : decode cX9_air 18 = .ok (.bipush (-103), 2) := by decide +kernel
theorem dX9_air_20 : decode cX9_air 20 = .ok (.ireturn, 1) := by decide +kernel
theorem dX9_air_21 : decode cX9_air 21 = .ok (.aload_n 0, 1) := by decide +kernel
theorem dX9_air_22 : decode cX9_air 22 = .ok (.aload_n 0, 1) := by decide +kernel
theorem dX9_air_23 : decode cX9_air 23 = .ok (.getfield 7, 3) := by decide +kernel
theorem dX9_air_26 : decode cX9_air 26 = .ok (.iconst 0, 1) := by decide +kernel
theorem dX9_air_27 : decode cX9_air 27 = .ok (.iaload, 1) := by decide +kernel
theorem dX9_air_28 : decode cX9_air 28 = .ok (.bipush 48, 2) := by decide +kernel
theorem dX9_air_30 : decode cX9_air 30 = .ok (.isub, 1) := by decide +kernel
theorem dX9_air_31 : decode cX9_air 31 = .ok (.putfield 139, 3) := by decide +kernel
theorem dX9_air_34 : decode cX9_air 34 = .ok (.aload_n 0, 1) := by decide +kernel
theorem dX9_air_35 : decode cX9_air 35 = .ok (.aload_n 0, 1) := by decide +kernel
theorem dX9_air_36 : decode cX9_air 36 = .ok (.getfield 7, 3) := by decide +kernel
theorem dX9_air_39 : decode cX9_air 39 = .ok (.iconst 2, 1) := by decide +kernel
theorem dX9_air_40 : decode cX9_air 40 = .ok (.iaload, 1) := by decide +kernel
theorem dX9_air_41 : decode cX9_air 41 = .ok (.bipush 48, 2) := by decide +kernel
theorem dX9_air_43 : decode cX9_air 43 = .ok (.isub, 1) := by decide +kernel
theorem dX9_air_44 : decode cX9_air 44 = .ok (.putfield 142, 3) := by decide +kernel
theorem dX9_air_47 : decode cX9_air 47 = .ok (.aload_n 0, 1) := by decide +kernel
theorem dX9_air_48 : decode cX9_air 48 = .ok (.aload_n 0, 1) := by decide +kernel
theorem dX9_air_49 : decode cX9_air 49 = .ok (.getfield 7, 3) := by decide +kernel
theorem dX9_air_52 : decode cX9_air 52 = .ok (.iconst 4, 1) := by decide +kernel
theorem dX9_air_53 : decode cX9_air 53 = .ok (.iaload, 1) := by decide +kernel
theorem dX9_air_54 : decode cX9_air 54 = .ok (.bipush 48, 2) := by decide +kernel
theorem dX9_air_56 : decode cX9_air 56 = .ok (.isub, 1) := by decide +kernel
theorem dX9_air_57 : decode cX9_air 57 = .ok (.putfield 145, 3) := by decide +kernel
theorem dX9_air_60 : decode cX9_air 60 = .ok (.aload_n 0, 1) := by decide +kernel
theorem dX9_air_61 : decode cX9_air 61 = .ok (.aload_n 0, 1) := by decide +kernel
theorem dX9_air_62 : decode cX9_air 62 = .ok (.getfield 7, 3) := by decide +kernel
theorem dX9_air_65 : decode cX9_air 65 = .ok (.bipush 6, 2) := by decide +kernel
theorem dX9_air_67 : decode cX9_air 67 = .ok (.iaload, 1) := by decide +kernel
theorem dX9_air_68 : decode cX9_air 68 = .ok (.bipush 48, 2) := by decide +kernel
theorem dX9_air_70 : decode cX9_air 70 = .ok (.isub, 1) := by decide +kernel
theorem dX9_air_71 : decode cX9_air 71 = .ok (.putfield 148, 3) := by decide +kernel
theorem dX9_air_74 : decode cX9_air 74 = .ok (.aload_n 0, 1) := by decide +kernel
theorem dX9_air_75 : decode cX9_air 75 = .ok (.iconst 0, 1) := by decide +kernel
theorem dX9_air_76 : decode cX9_air 76 = .ok (.putfield 151, 3) := by decide +kernel
theorem dX9_air_79 : decode cX9_air 79 = .ok (.aload_n 0, 1) := by decide +kernel
theorem dX9_air_80 : decode cX9_air 80 = .ok (.iconst 0, 1) := by decide +kernel
theorem dX9_air_81 : decode cX9_air 81 = .ok (.putfield 154, 3) := by decide +kernel
theorem dX9_air_84 : decode cX9_air 84 = .ok (.aload_n 0, 1) := by decide +kernel
theorem dX9_air_85 : decode cX9_air 85 = .ok (.dup, 1) := by decide +kernel
theorem dX9_air_86 : decode cX9_air 86 = .ok (.getfield 157, 3) := by decide +kernel
theorem dX9_air_89 : decode cX9_air 89 = .ok (.iconst 1, 1) := by decide +kernel
theorem dX9_air_90 : decode cX9_air 90 = .ok (.iadd, 1) := by decide +kernel
theorem dX9_air_91 : decode cX9_air 91 = .ok (.putfield 157, 3) := by decide +kernel
theorem dX9_air_94 : decode cX9_air 94 = .ok (.aload_n 0, 1) := by decide +kernel
theorem dX9_air_95 : decode cX9_air 95 = .ok (.iconst 0, 1) := by decide +kernel
theorem dX9_air_96 : decode cX9_air 96 = .ok (.putfield 127, 3) := by decide +kernel
theorem dX9_air_99 : decode cX9_air 99 = .ok (.iconst 0, 1) := by decide +kernel
theorem dX9_air_100 : decode cX9_air 100 = .ok (.istore_n 1, 1) := by decide +kernel
theorem dX9_air_101 : decode cX9_air 101 = .ok (.iload_n 1, 1) := by decide +kernel
theorem dX9_air_102 : decode cX9_air 102 = .ok (.bipush 7, 2) := by decide +kernel
theorem dX9_air_104 : decode cX9_air 104 = .ok (.if_icmp .ge 16, 3) := by decide +kernel
theorem dX9_air_107 : decode cX9_air 107 = .ok (.aload_n 0, 1) := by decide +kernel
theorem dX9_air_108 : decode cX9_air 108 = .ok (.getfield 13, 3) := by decide +kernel
theorem dX9_air_111 : decode cX9_air 111 = .ok (.iload_n 1, 1) := by decide +kernel
theorem dX9_air_112 : decode cX9_air 112 = .ok (.iconst 0, 1) := by decide +kernel
theorem dX9_air_113 : decode cX9_air 113 = .ok (.iastore, 1) := by decide +kernel
theorem dX9_air_114 : decode cX9_air 114 = .ok (.iinc 1 1, 3) := by decide +kernel
theorem dX9_air_117 : decode cX9_air 117 = .ok (.goto (-16), 3) := by decide +kernel
theorem dX9_air_120 : decode cX9_air 120 = .ok (.iconst 0, 1) := by decide +kernel
theorem dX9_air_121 : decode cX9_air 121 = .ok (.istore_n 1, 1) := by decide +kernel
theorem dX9_air_122 : decode cX9_air 122 = .ok (.iload_n 1, 1) := by decide +kernel
theorem dX9_air_123 : decode cX9_air 123 = .ok (.iconst 4, 1) := by decide +kernel
theorem dX9_air_124 : decode cX9_air 124 = .ok (.if_icmp .ge 30, 3) := by decide +kernel
theorem dX9_air_127 : decode cX9_air 127 = .ok (.aload_n 0, 1) := by decide +kernel
theorem dX9_air_128 : decode cX9_air 128 = .ok (.getfield 16, 3) := by decide +kernel
theorem dX9_air_131 : decode cX9_air 131 = .ok (.iload_n 1, 1) := by decide +kernel
theorem dX9_air_132 : decode cX9_air 132 = .ok (.iconst 0, 1) := by decide +kernel
theorem dX9_air_133 : decode cX9_air 133 = .ok (.iastore, 1) := by decide +kernel
theorem dX9_air_134 : decode cX9_air 134 = .ok (.aload_n 0, 1) := by decide +kernel
theorem dX9_air_135 : decode cX9_air 135 = .ok (.getfield 71, 3) := by decide +kernel
theorem dX9_air_138 : decode cX9_air 138 = .ok (.iload_n 1, 1) := by decide +kernel
theorem dX9_air_139 : decode cX9_air 139 = .ok (.iconst 0, 1) := by decide +kernel
theorem dX9_air_140 : decode cX9_air 140 = .ok (.bastore, 1) := by decide +kernel
theorem dX9_air_141 : decode cX9_air 141 = .ok (.aload_n 0, 1) := by decide +kernel
theorem dX9_air_142 : decode cX9_air 142 = .ok (.getfield 101, 3) := by decide +kernel
theorem dX9_air_145 : decode cX9_air 145 = .ok (.iload_n 1, 1) := by decide +kernel
theorem dX9_air_146 : decode cX9_air 146 = .ok (.iconst 0, 1) := by decide +kernel
theorem dX9_air_147 : decode cX9_air 147 = .ok (.iastore, 1) := by decide +kernel
theorem dX9_air_148 : decode cX9_air 148 = .ok (.iinc 1 1, 3) := by decide +kernel
theorem dX9_air_151 : decode cX9_air 151 = .ok (.goto (-29), 3) := by decide +kernel
theorem dX9_air_154 : decode cX9_air 154 = .ok (.aload_n 0, 1) := by decide +kernel
theorem dX9_air_155 : decode cX9_air 155 = .ok (.getfield 139, 3) := by decide +kernel
theorem dX9_air_158 : decode cX9_air 158 = .ok (.aload_n 0, 1) := by decide +kernel
theorem dX9_air_159 : decode cX9_air 159 = .ok (.getfield 142, 3) := by decide +kernel
theorem dX9_air_162 : decode cX9_air 162 = .ok (.iadd, 1) := by decide +kernel
theorem dX9_air_163 : decode cX9_air 163 = .ok (.ireturn, 1) := by decide +kernel
abbrev rm_X9_air : Room := { frames := 3, cells := 0, slots := 0, locals := 64 }
def P_X9_air  (h : HP) (Q : Int32 → HP → Prop) : Prop := ((¬ (h.1 78 6) = 7) → (Q (-103) h)) ∧ (((h.1 78 6) = 7) → (P_X9_faultNow h (fun (v_10 : Int32) (h_10 : HP) => ((v_10 = 7) → (Lp2 (fun X_101 (i1_101 : Int32) (h_101 : HP) => ((7 ≤ i1_101) → (Lp2 (fun X_122 (i1_122 : Int32) (h_122 : HP) => ((4 ≤ i1_122) → (Q ((h_122.1 78 0) + (h_122.1 78 1)) h_122)) ∧ ((¬ 4 ≤ i1_122) → ((vp_in i1_122 4) ∧ ((vp_in i1_122 4) ∧ ((vp_in i1_122 4) ∧ (X_122 (i1_122 + 1) (si (si (si h_122 81 i1_122.toNatClampNeg 0) 99 i1_122.toNatClampNeg 0) 109 i1_122.toNatClampNeg 0))))))) 0 h_101)) ∧ ((¬ 7 ≤ i1_101) → ((vp_in i1_101 7) ∧ (X_101 (i1_101 + 1) (si h_101 80 i1_101.toNatClampNeg 0))))) 0 (si (si (si (si (si (si (si (si h_10 78 0 ((h_10.1 79 0) - 48)) 78 1 (((si h_10 78 0 ((h_10.1 79 0) - 48)).1 79 2) - 48)) 78 2 (((si (si h_10 78 0 ((h_10.1 79 0) - 48)) 78 1 (((si h_10 78 0 ((h_10.1 79 0) - 48)).1 79 2) - 48)).1 79 4) - 48)) 78 3 (((si (si (si h_10 78 0 ((h_10.1 79 0) - 48)) 78 1 (((si h_10 78 0 ((h_10.1 79 0) - 48)).1 79 2) - 48)) 78 2 (((si (si h_10 78 0 ((h_10.1 79 0) - 48)) 78 1 (((si h_10 78 0 ((h_10.1 79 0) - 48)).1 79 2) - 48)).1 79 4) - 48)).1 79 6) - 48)) 78 4 0) 78 39 0) 78 5 (((si (si (si (si (si (si h_10 78 0 ((h_10.1 79 0) - 48)) 78 1 (((si h_10 78 0 ((h_10.1 79 0) - 48)).1 79 2) - 48)) 78 2 (((si (si h_10 78 0 ((h_10.1 79 0) - 48)) 78 1 (((si h_10 78 0 ((h_10.1 79 0) - 48)).1 79 2) - 48)).1 79 4) - 48)) 78 3 (((si (si (si h_10 78 0 ((h_10.1 79 0) - 48)) 78 1 (((si h_10 78 0 ((h_10.1 79 0) - 48)).1 79 2) - 48)) 78 2 (((si (si h_10 78 0 ((h_10.1 79 0) - 48)) 78 1 (((si h_10 78 0 ((h_10.1 79 0) - 48)).1 79 2) - 48)).1 79 4) - 48)).1 79 6) - 48)) 78 4 0) 78 39 0).1 78 5) + 1)) 78 6 0))) ∧ ((¬ v_10 = 7) → (Q (-103) h_10)))))
set_option maxHeartbeats 4000000 in
theorem t_X9_air  {h : HP} {Q : Int32 → HP → Prop}  (hp : P_X9_air  h Q) : MT yX9_air cX9_air 2 (some .int) rm_X9_air [.ref 78] gM SH (emb h) (pI Q) := by
  refine MT.of (by decide +kernel) (Nat.le_of_ble_eq_true rfl) (fun C hC hE => ?_)
  show SW C gM 0 [(0, .ref 78)] [] h
  unfold P_X9_air at hp
  refine x_aload_n hC dX9_air_0 (lm 0 rfl) ?_
  refine s_getI hC dX9_air_1 fk_9_127 ty_78 ?_
  refine x_bipush hC dX9_air_4 bp_7 ?_
  refine x_icmp_ne (tgt := 18) hC dX9_air_6 (by decide) (fun hc => ?_) (fun hc => ?_)
  · have hp := hp.1 hc
    refine x_bipush hC dX9_air_18 bp_m103 ?_
    exact x_iret hC hE dX9_air_20 ⟨_, _, rfl, rfl, hp⟩
  · have hp := hp.2 hc
    refine x_aload_n hC dX9_air_9 (lm 0 rfl) ?_
    refine s_callVi (avs := []) (st := []) hC dX9_air_10 ml_9_135 mi_X9_faultNow ty_78 rfl (t_X9_faultNow  hp) (Nat.le_of_ble_eq_true rfl) ⟨rfl, rfl⟩ ⟨Nat.le_of_ble_eq_true rfl, Nat.le_of_ble_eq_true rfl⟩ (fun v_10 h_10 hp => ?_)
    refine x_bipush hC dX9_air_13 bp_7 ?_
    refine x_icmp_eq (tgt := 21) hC dX9_air_15 (by decide) (fun hc => ?_) (fun hc => ?_)
    · have hp := hp.1 hc
      refine x_aload_n hC dX9_air_21 (lm 0 rfl) ?_
      refine x_aload_n hC dX9_air_22 (lm 0 rfl) ?_
      refine s_getR (r := 79) hC dX9_air_23 fk_9_7 ty_78 (fr_9_7 ty_78).1 ?_
      refine x_iconst hC dX9_air_26 ic_0 ?_
      refine s_iald hC dX9_air_27 ((fr_9_7 ty_78).2) (vi (by decide)) ?_
      refine x_bipush hC dX9_air_28 bp_48 ?_
      refine x_isub hC dX9_air_30 ?_
      refine s_putI hC dX9_air_31 fk_9_139 rfl rfl ty_78 ?_
      refine x_aload_n hC dX9_air_34 (lm 0 rfl) ?_
      refine x_aload_n hC dX9_air_35 (lm 0 rfl) ?_
      refine s_getR (r := 79) hC dX9_air_36 fk_9_7 ty_78 (fr_9_7 ty_78).1 ?_
      refine x_iconst hC dX9_air_39 ic_2 ?_
      refine s_iald hC dX9_air_40 ((fr_9_7 ty_78).2) (vi (by decide)) ?_
      refine x_bipush hC dX9_air_41 bp_48 ?_
      refine x_isub hC dX9_air_43 ?_
      refine s_putI hC dX9_air_44 fk_9_142 rfl rfl ty_78 ?_
      refine x_aload_n hC dX9_air_47 (lm 0 rfl) ?_
      refine x_aload_n hC dX9_air_48 (lm 0 rfl) ?_
      refine s_getR (r := 79) hC dX9_air_49 fk_9_7 ty_78 (fr_9_7 ty_78).1 ?_
      refine x_iconst hC dX9_air_52 ic_4 ?_
      refine s_iald hC dX9_air_53 ((fr_9_7 ty_78).2) (vi (by decide)) ?_
      refine x_bipush hC dX9_air_54 bp_48 ?_
      refine x_isub hC dX9_air_56 ?_
      refine s_putI hC dX9_air_57 fk_9_145 rfl rfl ty_78 ?_
      refine x_aload_n hC dX9_air_60 (lm 0 rfl) ?_
      refine x_aload_n hC dX9_air_61 (lm 0 rfl) ?_
      refine s_getR (r := 79) hC dX9_air_62 fk_9_7 ty_78 (fr_9_7 ty_78).1 ?_
      refine x_bipush hC dX9_air_65 bp_6 ?_
      refine s_iald hC dX9_air_67 ((fr_9_7 ty_78).2) (vi (by decide)) ?_
      refine x_bipush hC dX9_air_68 bp_48 ?_
      refine x_isub hC dX9_air_70 ?_
      refine s_putI hC dX9_air_71 fk_9_148 rfl rfl ty_78 ?_
      refine x_aload_n hC dX9_air_74 (lm 0 rfl) ?_
      refine x_iconst hC dX9_air_75 ic_0 ?_
      refine s_putI hC dX9_air_76 fk_9_151 rfl rfl ty_78 ?_
      refine x_aload_n hC dX9_air_79 (lm 0 rfl) ?_
      refine x_iconst hC dX9_air_80 ic_0 ?_
      refine s_putI hC dX9_air_81 fk_9_154 rfl rfl ty_78 ?_
      refine x_aload_n hC dX9_air_84 (lm 0 rfl) ?_
      refine x_dup hC dX9_air_85 rfl ?_
      refine s_getI hC dX9_air_86 fk_9_157 ty_78 ?_
      refine x_iconst hC dX9_air_89 ic_1 ?_
      refine x_iadd hC dX9_air_90 ?_
      refine s_putI hC dX9_air_91 fk_9_157 rfl rfl ty_78 ?_
      refine x_aload_n hC dX9_air_94 (lm 0 rfl) ?_
      refine x_iconst hC dX9_air_95 ic_0 ?_
      refine s_putI hC dX9_air_96 fk_9_127 rfl rfl ty_78 ?_
      refine x_iconst hC dX9_air_99 ic_0 ?_
      refine x_istore_n (lv' := [(1, .int 0), (0, .ref 78)]) hC dX9_air_100 (by decide) rfl ?_
      refine x_subk (lv' := [(0, .ref 78), (1, .int 0)]) [1, 0] rfl ?_
      refine hp (fun i1_101 h_101 => SW C gM 101 [(0, .ref 78), (1, .int i1_101)] [] h_101) (fun i1_101 h_101 hp => ?_)
      refine x_iload_n hC dX9_air_101 (lm 1 rfl) ?_
      refine x_bipush hC dX9_air_102 bp_7 ?_
      refine x_icmp_ge (tgt := 120) hC dX9_air_104 (by decide) (fun hc => ?_) (fun hc => ?_)
      · have hp := hp.1 hc
        refine x_iconst hC dX9_air_120 ic_0 ?_
        refine x_istore_n (lv' := [(1, .int 0), (0, .ref 78)]) hC dX9_air_121 (by decide) rfl ?_
        refine x_subk (lv' := [(0, .ref 78), (1, .int 0)]) [1, 0] rfl ?_
        refine hp (fun i1_122 h_122 => SW C gM 122 [(0, .ref 78), (1, .int i1_122)] [] h_122) (fun i1_122 h_122 hp => ?_)
        refine x_iload_n hC dX9_air_122 (lm 1 rfl) ?_
        refine x_iconst hC dX9_air_123 ic_4 ?_
        refine x_icmp_ge (tgt := 154) hC dX9_air_124 (by decide) (fun hc => ?_) (fun hc => ?_)
        · have hp := hp.1 hc
          refine x_aload_n hC dX9_air_154 (lm 0 rfl) ?_
          refine s_getI hC dX9_air_155 fk_9_139 ty_78 ?_
          refine x_aload_n hC dX9_air_158 (lm 0 rfl) ?_
          refine s_getI hC dX9_air_159 fk_9_142 ty_78 ?_
          refine x_iadd hC dX9_air_162 ?_
          exact x_iret hC hE dX9_air_163 ⟨_, _, rfl, rfl, hp⟩
        · have hp := hp.2 hc
          refine x_aload_n hC dX9_air_127 (lm 0 rfl) ?_
          refine s_getR (r := 81) hC dX9_air_128 fk_9_16 ty_78 (fr_9_9 ty_78).1 ?_
          refine x_iload_n hC dX9_air_131 (lm 1 rfl) ?_
          refine x_iconst hC dX9_air_132 ic_0 ?_
          obtain ⟨ho, hp⟩ := hp
          refine s_iast hC dX9_air_133 ((fr_9_9 ty_78).2) ho ?_
          refine x_aload_n hC dX9_air_134 (lm 0 rfl) ?_
          refine s_getR (r := 99) hC dX9_air_135 fk_9_71 ty_78 (fr_9_27 ty_78).1 ?_
          refine x_iload_n hC dX9_air_138 (lm 1 rfl) ?_
          refine x_iconst hC dX9_air_139 ic_0 ?_
          obtain ⟨ho, hp⟩ := hp
          refine s_zast (y := 0) hC dX9_air_140 ((fr_9_27 ty_78).2) ho (by decide) ?_
          refine x_aload_n hC dX9_air_141 (lm 0 rfl) ?_
          refine s_getR (r := 109) hC dX9_air_142 fk_9_101 ty_78 (fr_9_37 ty_78).1 ?_
          refine x_iload_n hC dX9_air_145 (lm 1 rfl) ?_
          refine x_iconst hC dX9_air_146 ic_0 ?_
          obtain ⟨ho, hp⟩ := hp
          refine s_iast hC dX9_air_147 ((fr_9_37 ty_78).2) ho ?_
          refine x_iinc (u := i1_122 + 1) (lv' := [(1, .int (i1_122 + 1)), (0, .ref 78)]) hC dX9_air_148 (lm 1 rfl) (congrArg _ ic_1) (by decide) rfl ?_
          refine x_goto (tgt := 122) hC dX9_air_151 (by decide) ?_
          exact x_subk [1, 0] rfl hp
      · have hp := hp.2 hc
        refine x_aload_n hC dX9_air_107 (lm 0 rfl) ?_
        refine s_getR (r := 80) hC dX9_air_108 fk_9_13 ty_78 (fr_9_8 ty_78).1 ?_
        refine x_iload_n hC dX9_air_111 (lm 1 rfl) ?_
        refine x_iconst hC dX9_air_112 ic_0 ?_
        obtain ⟨ho, hp⟩ := hp
        refine s_iast hC dX9_air_113 ((fr_9_8 ty_78).2) ho ?_
        refine x_iinc (u := i1_101 + 1) (lv' := [(1, .int (i1_101 + 1)), (0, .ref 78)]) hC dX9_air_114 (lm 1 rfl) (congrArg _ ic_1) (by decide) rfl ?_
        refine x_goto (tgt := 101) hC dX9_air_117 (by decide) ?_
        exact x_subk [1, 0] rfl hp
    · have hp := hp.2 hc
      refine x_bipush hC dX9_air_18 bp_m103 ?_
      exact x_iret hC hE dX9_air_20 ⟨_, _, rfl, rfl, hp⟩
theorem dX9_isAir_0 : decode cX9_isAir 0 = .ok (.aload_n 0, 1) := by decide +kernel
theorem dX9_isAir_1 : decode cX9_isAir 1 = .ok (.getfield 139, 3) := by decide +kernel
theorem dX9_isAir_4 : decode cX9_isAir 4 = .ok (.ifCond .le 7, 3) := by decide +kernel
theorem dX9_isAir_7 : decode cX9_isAir 7 = .ok (.iconst 1, 1) := by decide +kernel
theorem dX9_isAir_8 : decode cX9_isAir 8 = .ok (.goto 4, 3) := by decide +kernel
theorem dX9_isAir_11 : decode cX9_isAir 11 = .ok (.iconst 0, 1) := by decide +kernel
theorem dX9_isAir_12 : decode cX9_isAir 12 = .ok (.ireturn, 1) := by decide +kernel
abbrev rm_X9_isAir : Room := { frames := 0, cells := 0, slots := 0, locals := 0 }
def P_X9_isAir  (h : HP) (Q : Int32 → HP → Prop) : Prop := (((h.1 78 0) ≤ 0) → Q 0 h) ∧ ((¬ (h.1 78 0) ≤ 0) → Q 1 h)
set_option maxHeartbeats 4000000 in
theorem t_X9_isAir  {h : HP} {Q : Int32 → HP → Prop}  (hp : P_X9_isAir  h Q) : MT yX9_isAir cX9_isAir 1 (some .boolean) rm_X9_isAir [.ref 78] gM SH (emb h) (pI Q) := by
  refine MT.of (by decide +kernel) (Nat.le_of_ble_eq_true rfl) (fun C hC hE => ?_)
  show SW C gM 0 [(0, .ref 78)] [] h
  unfold P_X9_isAir at hp
  refine x_aload_n hC dX9_isAir_0 (lm 0 rfl) ?_
  refine s_getI hC dX9_isAir_1 fk_9_139 ty_78 ?_
  refine x_if_le (tgt := 11) hC dX9_isAir_4 (by decide) (fun hc => ?_) (fun hc => ?_)
  · have hp := hp.1 hc
    refine x_iconst hC dX9_isAir_11 ic_0 ?_
    exact x_zret hC hE dX9_isAir_12 (Or.inl rfl) ⟨_, _, rfl, rfl, hp⟩
  · have hp := hp.2 hc
    refine x_iconst hC dX9_isAir_7 ic_1 ?_
    refine x_goto (tgt := 12) hC dX9_isAir_8 (by decide) ?_
    exact x_zret hC hE dX9_isAir_12 (Or.inr rfl) ⟨_, _, rfl, rfl, hp⟩
theorem dX9_isClass_0 : decode cX9_isClass 0 = .ok (.aload_n 0, 1) := by decide +kernel
theorem dX9_isClass_1 : decode cX9_isClass 1 = .ok (.invokevirtual 160, 3) := by decide +kernel
theorem dX9_isClass_4 : decode cX9_isClass 4 = .ok (.ifCond .eq 16, 3) := by decide +kernel
theorem dX9_isClass_7 : decode cX9_isClass 7 = .ok (.iload_n 1, 1) := by decide +kernel
theorem dX9_isClass_8 : decode cX9_isClass 8 = .ok (.iconst 0, 1) := by decide +kernel
theorem dX9_isClass_9 : decode cX9_isClass 9 = .ok (.iconst 3, 1) := by decide +kernel
theorem dX9_isClass_10 : decode cX9_isClass 10 = .ok (.invokestatic 123, 3) := by decide +kernel
theorem dX9_isClass_13 : decode cX9_isClass 13 = .ok (.ifCond .eq 7, 3) := by decide +kernel
theorem dX9_isClass_16 : decode cX9_isClass 16 = .ok (.iconst 1, 1) := by decide +kernel
theorem dX9_isClass_17 : decode cX9_isClass 17 = .ok (.goto 4, 3) := by decide +kernel
theorem dX9_isClass_20 : decode cX9_isClass 20 = .ok (.iconst 0, 1) := by decide +kernel
theorem dX9_isClass_21 : decode cX9_isClass 21 = .ok (.ireturn, 1) := by decide +kernel
abbrev rm_X9_isClass : Room := { frames := 1, cells := 0, slots := 0, locals := 22 }
def P_X9_isClass (i1 : Int32) (h : HP) (Q : Int32 → HP → Prop) : Prop := P_X9_isAir h (fun (v_1 : Int32) (h_1 : HP) => ((v_1 = 0) → Q 0 h_1) ∧ ((¬ v_1 = 0) → (P_X9_within i1 0 3 h_1 (fun (v_10 : Int32) (h_10 : HP) => ((v_10 = 0) → Q 0 h_10) ∧ ((¬ v_10 = 0) → Q 1 h_10)))))
set_option maxHeartbeats 4000000 in
theorem t_X9_isClass {i1 : Int32} {h : HP} {Q : Int32 → HP → Prop}  (hp : P_X9_isClass i1 h Q) : MT yX9_isClass cX9_isClass 2 (some .boolean) rm_X9_isClass [.ref 78, .int i1] gM SH (emb h) (pI Q) := by
  refine MT.of (by decide +kernel) (Nat.le_of_ble_eq_true rfl) (fun C hC hE => ?_)
  show SW C gM 0 [(0, .ref 78), (1, .int i1)] [] h
  unfold P_X9_isClass at hp
  refine x_aload_n hC dX9_isClass_0 (lm 0 rfl) ?_
  refine s_callVi (avs := []) (st := []) hC dX9_isClass_1 ml_9_160 mi_X9_isAir ty_78 rfl (t_X9_isAir  hp) (Nat.le_of_ble_eq_true rfl) ⟨rfl, rfl⟩ ⟨Nat.le_of_ble_eq_true rfl, Nat.le_of_ble_eq_true rfl⟩ (fun v_1 h_1 hp => ?_)
  refine x_if_eq (tgt := 20) hC dX9_isClass_4 (by decide) (fun hc => ?_) (fun hc => ?_)
  · have hp := hp.1 hc
    refine x_iconst hC dX9_isClass_20 ic_0 ?_
    exact x_zret hC hE dX9_isClass_21 (Or.inl rfl) ⟨_, _, rfl, rfl, hp⟩
  · have hp := hp.2 hc
    refine x_iload_n hC dX9_isClass_7 (lm 1 rfl) ?_
    refine x_iconst hC dX9_isClass_8 ic_0 ?_
    refine x_iconst hC dX9_isClass_9 ic_3 ?_
    refine s_callSi (avs := [.int i1, .int 0, .int 3]) (st := []) hC dX9_isClass_10 ml_9_123 ms_X9_within rfl (t_X9_within  hp) (Nat.le_of_ble_eq_true rfl) ⟨rfl, rfl⟩ ⟨Nat.le_of_ble_eq_true rfl, Nat.le_of_ble_eq_true rfl⟩ (fun v_10 h_10 hp => ?_)
    refine x_if_eq (tgt := 20) hC dX9_isClass_13 (by decide) (fun hc => ?_) (fun hc => ?_)
    · have hp := hp.1 hc
      refine x_iconst hC dX9_isClass_20 ic_0 ?_
      exact x_zret hC hE dX9_isClass_21 (Or.inl rfl) ⟨_, _, rfl, rfl, hp⟩
    · have hp := hp.2 hc
      refine x_iconst hC dX9_isClass_16 ic_1 ?_
      refine x_goto (tgt := 21) hC dX9_isClass_17 (by decide) ?_
      exact x_zret hC hE dX9_isClass_21 (Or.inr rfl) ⟨_, _, rfl, rfl, hp⟩
theorem dX9_left_0 : decode cX9_left 0 = .ok (.aload_n 0, 1) := by decide +kernel
theorem dX9_left_1 : decode cX9_left 1 = .ok (.invokevirtual 160, 3) := by decide +kernel
theorem dX9_left_4 : decode cX9_left 4 = .ok (.ifCond .eq 20, 3) := by decide +kernel
theorem dX9_left_7 : decode cX9_left 7 = .ok (.aload_n 0, 1) := by decide +kernel
theorem dX9_left_8 : decode cX9_left 8 = .ok (.getfield 151, 3) := by decide +kernel
theorem dX9_left_11 : decode cX9_left 11 = .ok (.aload_n 0, 1) := by decide +kernel
theorem dX9_left_12 : decode cX9_left 12 = .ok (.getfield 139, 3) := by decide +kernel
theorem dX9_left_15 : decode cX9_left 15 = .ok (.aload_n 0, 1) := by decide +kernel
theorem dX9_left_16 : decode cX9_left 16 = .ok (.getfield 142, 3) := by decide +kernel
theorem dX9_left_19 : decode cX9_left 19 = .ok (.iadd, 1) := by decide +kernel
theorem dX9_left_20 : decode cX9_left 20 = .ok (.irem, 1) := by decide +kernel
theorem dX9_left_21 : decode cX9_left 21 = .ok (.goto 4, 3) := by decide +kernel
theorem dX9_left_24 : decode cX9_left 24 = .ok (.iconst 0, 1) := by decide +kernel
theorem dX9_left_25 : decode cX9_left 25 = .ok (.istore_n 1, 1) := by decide +kernel
theorem dX9_left_26 : decode cX9_left 26 = .ok (.iload_n 1, 1) := by decide +kernel
theorem dX9_left_27 : decode cX9_left 27 = .ok (.aload_n 0, 1) := by decide +kernel
theorem dX9_left_28 : decode cX9_left 28 = .ok (.getfield 139, 3) := by decide +kernel
theorem dX9_left_31 : decode cX9_left 31 = .ok (.if_icmp .ge 12, 3) := by decide +kernel
theorem dX9_left_34 : decode cX9_left 34 = .ok (.aload_n 0, 1) := by decide +kernel
theorem dX9_left_35 : decode cX9_left 35 = .ok (.getfield 139, 3) := by decide +kernel
theorem dX9_left_38 : decode cX9_left 38 = .ok (.iload_n 1, 1) := by decide +kernel
theorem dX9_left_39 : decode cX9_left 39 = .ok (.isub, 1) := by decide +kernel
theorem dX9_left_40 : decode cX9_left 40 = .ok (.goto 4, 3) := by decide +kernel
theorem dX9_left_43 : decode cX9_left 43 = .ok (.iconst 0, 1) := by decide +kernel
theorem dX9_left_44 : decode cX9_left 44 = .ok (.ireturn, 1) := by decide +kernel
abbrev rm_X9_left : Room := { frames := 1, cells := 0, slots := 0, locals := 20 }
def P_X9_left_j26 (_q0 : Nat) (i1 : Int32) (h : HP)  (Q : Int32 → HP → Prop) : Prop := (((h.1 78 0) ≤ i1) → Q 0 h) ∧ ((¬ (h.1 78 0) ≤ i1) → (Q ((h.1 78 0) - i1) h))
def P_X9_left  (h : HP) (Q : Int32 → HP → Prop) : Prop := P_X9_isAir h (fun (v_1 : Int32) (h_1 : HP) => ((v_1 = 0) → P_X9_left_j26 78 0 h_1 Q) ∧ ((¬ v_1 = 0) → ((¬ ((h_1.1 78 0) + (h_1.1 78 1)) = 0) ∧ (P_X9_left_j26 78 ((h_1.1 78 4) - (h_1.1 78 4) / ((h_1.1 78 0) + (h_1.1 78 1)) * ((h_1.1 78 0) + (h_1.1 78 1))) h_1 Q))))
set_option maxHeartbeats 4000000 in
theorem l_X9_left_j26 {i1 : Int32} {h : HP}  {Q : Int32 → HP → Prop} {C : Cx} (hC : xOk C cX9_left yX9_left.cls 2 rm_X9_left (some .int)) (hE : xEnd C gM SH (pI Q))   (hp : P_X9_left_j26 78 i1 h  Q) : SW C gM 26 [(0, .ref 78), (1, .int i1)] [] h := by
  unfold P_X9_left_j26 at hp
  refine x_iload_n hC dX9_left_26 (lm 1 rfl) ?_
  refine x_aload_n hC dX9_left_27 (lm 0 rfl) ?_
  refine s_getI hC dX9_left_28 fk_9_139 ty_78 ?_
  refine x_icmp_ge (tgt := 43) hC dX9_left_31 (by decide) (fun hc => ?_) (fun hc => ?_)
  · have hp := hp.1 hc
    refine x_iconst hC dX9_left_43 ic_0 ?_
    exact x_iret hC hE dX9_left_44 ⟨_, _, rfl, rfl, hp⟩
  · have hp := hp.2 hc
    refine x_aload_n hC dX9_left_34 (lm 0 rfl) ?_
    refine s_getI hC dX9_left_35 fk_9_139 ty_78 ?_
    refine x_iload_n hC dX9_left_38 (lm 1 rfl) ?_
    refine x_isub hC dX9_left_39 ?_
    refine x_goto (tgt := 44) hC dX9_left_40 (by decide) ?_
    exact x_iret hC hE dX9_left_44 ⟨_, _, rfl, rfl, hp⟩
set_option maxHeartbeats 4000000 in
theorem t_X9_left  {h : HP} {Q : Int32 → HP → Prop}  (hp : P_X9_left  h Q) : MT yX9_left cX9_left 2 (some .int) rm_X9_left [.ref 78] gM SH (emb h) (pI Q) := by
  refine MT.of (by decide +kernel) (Nat.le_of_ble_eq_true rfl) (fun C hC hE => ?_)
  show SW C gM 0 [(0, .ref 78)] [] h
  unfold P_X9_left at hp
  refine x_aload_n hC dX9_left_0 (lm 0 rfl) ?_
  refine s_callVi (avs := []) (st := []) hC dX9_left_1 ml_9_160 mi_X9_isAir ty_78 rfl (t_X9_isAir  hp) (Nat.le_of_ble_eq_true rfl) ⟨rfl, rfl⟩ ⟨Nat.le_of_ble_eq_true rfl, Nat.le_of_ble_eq_true rfl⟩ (fun v_1 h_1 hp => ?_)
  refine x_if_eq (tgt := 24) hC dX9_left_4 (by decide) (fun hc => ?_) (fun hc => ?_)
  · have hp := hp.1 hc
    refine x_iconst hC dX9_left_24 ic_0 ?_
    refine x_istore_n (lv' := [(1, .int 0), (0, .ref 78)]) hC dX9_left_25 (by decide) rfl ?_
    exact x_subk [1, 0] rfl (l_X9_left_j26 hC hE   hp)
  · have hp := hp.2 hc
    refine x_aload_n hC dX9_left_7 (lm 0 rfl) ?_
    refine s_getI hC dX9_left_8 fk_9_151 ty_78 ?_
    refine x_aload_n hC dX9_left_11 (lm 0 rfl) ?_
    refine s_getI hC dX9_left_12 fk_9_139 ty_78 ?_
    refine x_aload_n hC dX9_left_15 (lm 0 rfl) ?_
    refine s_getI hC dX9_left_16 fk_9_142 ty_78 ?_
    refine x_iadd hC dX9_left_19 ?_
    obtain ⟨ho, hp⟩ := hp
    refine x_irem hC dX9_left_20 ho ?_
    refine x_goto (tgt := 25) hC dX9_left_21 (by decide) ?_
    refine x_istore_n (lv' := [(1, .int ((h_1.1 78 4) - (h_1.1 78 4) / ((h_1.1 78 0) + (h_1.1 78 1)) * ((h_1.1 78 0) + (h_1.1 78 1)))), (0, .ref 78)]) hC dX9_left_25 (by decide) rfl ?_
    exact x_subk [1, 0] rfl (l_X9_left_j26 hC hE   hp)
theorem dX9_send_0 : decode cX9_send 0 = .ok (.bipush 8, 2) := by decide +kernel
theorem dX9_send_2 : decode cX9_send 2 = .ok (.aload_n 0, 1) := by decide +kernel
theorem dX9_send_3 : decode cX9_send 3 = .ok (.getfield 154, 3) := by decide +kernel
theorem dX9_send_6 : decode cX9_send 6 = .ok (.imul, 1) := by decide +kernel
theorem dX9_send_7 : decode cX9_send 7 = .ok (.istore 6, 2) := by decide +kernel
theorem dX9_send_9 : decode cX9_send 9 = .ok (.aload_n 0, 1) := by decide +kernel
theorem dX9_send_10 : decode cX9_send 10 = .ok (.getfield 107, 3) := by decide +kernel
theorem dX9_send_13 : decode cX9_send 13 = .ok (.iload 6, 2) := by decide +kernel
theorem dX9_send_15 : decode cX9_send 15 = .ok (.iload_n 1, 1) := by decide +kernel
theorem dX9_send_16 : decode cX9_send 16 = .ok (.iastore, 1) := by decide +kernel
theorem dX9_send_17 : decode cX9_send 17 = .ok (.aload_n 0, 1) := by decide +kernel
theorem dX9_send_18 : decode cX9_send 18 = .ok (.getfield 107, 3) := by decide +kernel
theorem dX9_send_21 : decode cX9_send 21 = .ok (.iload 6, 2) := by decide +kernel
theorem dX9_send_23 : decode cX9_send 23 = .ok (.iconst 1, 1) := by decide +kernel
theorem dX9_send_24 : decode cX9_send 24 = .ok (.iadd, 1) := by decide +kernel
theorem dX9_send_25 : decode cX9_send 25 = .ok (.iload_n 2, 1) := by decide +kernel
theorem dX9_send_26 : decode cX9_send 26 = .ok (.iastore, 1) := by decide +kernel
theorem dX9_send_27 : decode cX9_send 27 = .ok (.aload_n 0, 1) := by decide +kernel
theorem dX9_send_28 : decode cX9_send 28 = .ok (.getfield 107, 3) := by decide +kernel
theorem dX9_send_31 : decode cX9_send 31 = .ok (.iload 6, 2) := by decide +kernel
theorem dX9_send_33 : decode cX9_send 33 = .ok (.iconst 2, 1) := by decide +kernel
theorem dX9_send_34 : decode cX9_send 34 = .ok (.iadd, 1) := by decide +kernel
theorem dX9_send_35 : decode cX9_send 35 = .ok (.iload_n 3, 1) := by decide +kernel
theorem dX9_send_36 : decode cX9_send 36 = .ok (.iastore, 1) := by decide +kernel
theorem dX9_send_37 : decode cX9_send 37 = .ok (.aload_n 0, 1) := by decide +kernel
theorem dX9_send_38 : decode cX9_send 38 = .ok (.getfield 107, 3) := by decide +kernel
theorem dX9_send_41 : decode cX9_send 41 = .ok (.iload 6, 2) := by decide +kernel
theorem dX9_send_43 : decode cX9_send 43 = .ok (.iconst 3, 1) := by decide +kernel
theorem dX9_send_44 : decode cX9_send 44 = .ok (.iadd, 1) := by decide +kernel
theorem dX9_send_45 : decode cX9_send 45 = .ok (.iload 4, 2) := by decide +kernel
theorem dX9_send_47 : decode cX9_send 47 = .ok (.iastore, 1) := by decide +kernel
theorem dX9_send_48 : decode cX9_send 48 = .ok (.aload_n 0, 1) := by decide +kernel
theorem dX9_send_49 : decode cX9_send 49 = .ok (.getfield 107, 3) := by decide +kernel
theorem dX9_send_52 : decode cX9_send 52 = .ok (.iload 6, 2) := by decide +kernel
theorem dX9_send_54 : decode cX9_send 54 = .ok (.iconst 4, 1) := by decide +kernel
theorem dX9_send_55 : decode cX9_send 55 = .ok (.iadd, 1) := by decide +kernel
theorem dX9_send_56 : decode cX9_send 56 = .ok (.iload 5, 2) := by decide +kernel
theorem dX9_send_58 : decode cX9_send 58 = .ok (.iastore, 1) := by decide +kernel
theorem dX9_send_59 : decode cX9_send 59 = .ok (.aload_n 0, 1) := by decide +kernel
theorem dX9_send_60 : decode cX9_send 60 = .ok (.getfield 107, 3) := by decide +kernel
theorem dX9_send_63 : decode cX9_send 63 = .ok (.iload 6, 2) := by decide +kernel
theorem dX9_send_65 : decode cX9_send 65 = .ok (.iconst 5, 1) := by decide +kernel
theorem dX9_send_66 : decode cX9_send 66 = .ok (.iadd, 1) := by decide +kernel
theorem dX9_send_67 : decode cX9_send 67 = .ok (.iconst 0, 1) := by decide +kernel
theorem dX9_send_68 : decode cX9_send 68 = .ok (.iastore, 1) := by decide +kernel
theorem dX9_send_69 : decode cX9_send 69 = .ok (.aload_n 0, 1) := by decide +kernel
theorem dX9_send_70 : decode cX9_send 70 = .ok (.getfield 107, 3) := by decide +kernel
theorem dX9_send_73 : decode cX9_send 73 = .ok (.iload 6, 2) := by decide +kernel
theorem dX9_send_75 : decode cX9_send 75 = .ok (.bipush 6, 2) := by decide +kernel
theorem dX9_send_77 : decode cX9_send 77 = .ok (.iadd, 1) := by decide +kernel
theorem dX9_send_78 : decode cX9_send 78 = .ok (.iconst 0, 1) := by decide +kernel
theorem dX9_send_79 : decode cX9_send 79 = .ok (.iastore, 1) := by decide +kernel
theorem dX9_send_80 : decode cX9_send 80 = .ok (.aload_n 0, 1) := by decide +kernel
theorem dX9_send_81 : decode cX9_send 81 = .ok (.getfield 107, 3) := by decide +kernel
theorem dX9_send_84 : decode cX9_send 84 = .ok (.iload 6, 2) := by decide +kernel
theorem dX9_send_86 : decode cX9_send 86 = .ok (.bipush 7, 2) := by decide +kernel
theorem dX9_send_88 : decode cX9_send 88 = .ok (.iadd, 1) := by decide +kernel
theorem dX9_send_89 : decode cX9_send 89 = .ok (.iconst 0, 1) := by decide +kernel
theorem dX9_send_90 : decode cX9_send 90 = .ok (.iastore, 1) := by decide +kernel
theorem dX9_send_91 : decode cX9_send 91 = .ok (.aload_n 0, 1) := by decide +kernel
theorem dX9_send_92 : decode cX9_send 92 = .ok (.dup, 1) := by decide +kernel
theorem dX9_send_93 : decode cX9_send 93 = .ok (.getfield 154, 3) := by decide +kernel
theorem dX9_send_96 : decode cX9_send 96 = .ok (.iconst 1, 1) := by decide +kernel
theorem dX9_send_97 : decode cX9_send 97 = .ok (.iadd, 1) := by decide +kernel
theorem dX9_send_98 : decode cX9_send 98 = .ok (.putfield 154, 3) := by decide +kernel
theorem dX9_send_101 : decode cX9_send 101 = .ok (.aload_n 0, 1) := by decide +kernel
theorem dX9_send_102 : decode cX9_send 102 = .ok (.getfield 13, 3) := by decide +kernel
theorem dX9_send_105 : decode cX9_send 105 = .ok (.iconst 0, 1) := by decide +kernel
theorem dX9_send_106 : decode cX9_send 106 = .ok (.dup2, 1) := by decide +kernel
theorem dX9_send_107 : decode cX9_send 107 = .ok (.iaload, 1) := by decide +kernel
theorem dX9_send_108 : decode cX9_send 108 = .ok (.iconst 1, 1) := by decide +kernel
theorem dX9_send_109 : decode cX9_send 109 = .ok (.iadd, 1) := by decide +kernel
theorem dX9_send_110 : decode cX9_send 110 = .ok (.iastore, 1) := by decide +kernel
theorem dX9_send_111 : decode cX9_send 111 = .ok (.iload 6, 2) := by decide +kernel
theorem dX9_send_113 : decode cX9_send 113 = .ok (.ireturn, 1) := by decide +kernel
abbrev rm_X9_send : Room := { frames := 0, cells := 0, slots := 0, locals := 0 }
def P_X9_send (i1 : Int32) (i2 : Int32) (i3 : Int32) (i4 : Int32) (i5 : Int32) (h : HP) (Q : Int32 → HP → Prop) : Prop := (vp_in (8 * (h.1 78 39)) 128) ∧ ((vp_in ((8 * (h.1 78 39)) + 1) 128) ∧ ((vp_in ((8 * (h.1 78 39)) + 2) 128) ∧ ((vp_in ((8 * (h.1 78 39)) + 3) 128) ∧ ((vp_in ((8 * (h.1 78 39)) + 4) 128) ∧ ((vp_in ((8 * (h.1 78 39)) + 5) 128) ∧ ((vp_in ((8 * (h.1 78 39)) + 6) 128) ∧ ((vp_in ((8 * (h.1 78 39)) + 7) 128) ∧ (Q (8 * (h.1 78 39)) (si (si (si (si (si (si (si (si (si (si h 111 (8 * (h.1 78 39)).toNatClampNeg i1) 111 ((8 * (h.1 78 39)) + 1).toNatClampNeg i2) 111 ((8 * (h.1 78 39)) + 2).toNatClampNeg i3) 111 ((8 * (h.1 78 39)) + 3).toNatClampNeg i4) 111 ((8 * (h.1 78 39)) + 4).toNatClampNeg i5) 111 ((8 * (h.1 78 39)) + 5).toNatClampNeg 0) 111 ((8 * (h.1 78 39)) + 6).toNatClampNeg 0) 111 ((8 * (h.1 78 39)) + 7).toNatClampNeg 0) 78 39 (((si (si (si (si (si (si (si (si h 111 (8 * (h.1 78 39)).toNatClampNeg i1) 111 ((8 * (h.1 78 39)) + 1).toNatClampNeg i2) 111 ((8 * (h.1 78 39)) + 2).toNatClampNeg i3) 111 ((8 * (h.1 78 39)) + 3).toNatClampNeg i4) 111 ((8 * (h.1 78 39)) + 4).toNatClampNeg i5) 111 ((8 * (h.1 78 39)) + 5).toNatClampNeg 0) 111 ((8 * (h.1 78 39)) + 6).toNatClampNeg 0) 111 ((8 * (h.1 78 39)) + 7).toNatClampNeg 0).1 78 39) + 1)) 80 0 (((si (si (si (si (si (si (si (si (si h 111 (8 * (h.1 78 39)).toNatClampNeg i1) 111 ((8 * (h.1 78 39)) + 1).toNatClampNeg i2) 111 ((8 * (h.1 78 39)) + 2).toNatClampNeg i3) 111 ((8 * (h.1 78 39)) + 3).toNatClampNeg i4) 111 ((8 * (h.1 78 39)) + 4).toNatClampNeg i5) 111 ((8 * (h.1 78 39)) + 5).toNatClampNeg 0) 111 ((8 * (h.1 78 39)) + 6).toNatClampNeg 0) 111 ((8 * (h.1 78 39)) + 7).toNatClampNeg 0) 78 39 (((si (si (si (si (si (si (si (si h 111 (8 * (h.1 78 39)).toNatClampNeg i1) 111 ((8 * (h.1 78 39)) + 1).toNatClampNeg i2) 111 ((8 * (h.1 78 39)) + 2).toNatClampNeg i3) 111 ((8 * (h.1 78 39)) + 3).toNatClampNeg i4) 111 ((8 * (h.1 78 39)) + 4).toNatClampNeg i5) 111 ((8 * (h.1 78 39)) + 5).toNatClampNeg 0) 111 ((8 * (h.1 78 39)) + 6).toNatClampNeg 0) 111 ((8 * (h.1 78 39)) + 7).toNatClampNeg 0).1 78 39) + 1)).1 80 0) + 1))))))))))
set_option maxHeartbeats 4000000 in
theorem t_X9_send {i1 : Int32} {i2 : Int32} {i3 : Int32} {i4 : Int32} {i5 : Int32} {h : HP} {Q : Int32 → HP → Prop}  (hp : P_X9_send i1 i2 i3 i4 i5 h Q) : MT yX9_send cX9_send 7 (some .int) rm_X9_send [.ref 78, .int i1, .int i2, .int i3, .int i4, .int i5] gM SH (emb h) (pI Q) := by
  refine MT.of (by decide +kernel) (Nat.le_of_ble_eq_true rfl) (fun C hC hE => ?_)
  show SW C gM 0 [(0, .ref 78), (1, .int i1), (2, .int i2), (3, .int i3), (4, .int i4), (5, .int i5)] [] h
  unfold P_X9_send at hp
  refine x_bipush hC dX9_send_0 bp_8 ?_
  refine x_aload_n hC dX9_send_2 (lm 0 rfl) ?_
  refine s_getI hC dX9_send_3 fk_9_154 ty_78 ?_
  refine x_imul hC dX9_send_6 ?_
  refine x_istore (lv' := [(6, .int (8 * (h.1 78 39))), (0, .ref 78), (1, .int i1), (2, .int i2), (3, .int i3), (4, .int i4), (5, .int i5)]) hC dX9_send_7 (by decide) rfl ?_
  refine x_aload_n hC dX9_send_9 (lm 1 rfl) ?_
  refine s_getR (r := 111) hC dX9_send_10 fk_9_107 ty_78 (fr_9_40 ty_78).1 ?_
  refine x_iload hC dX9_send_13 (lm 0 rfl) ?_
  refine x_iload_n hC dX9_send_15 (lm 2 rfl) ?_
  obtain ⟨ho, hp⟩ := hp
  refine s_iast hC dX9_send_16 ((fr_9_40 ty_78).2) ho ?_
  refine x_aload_n hC dX9_send_17 (lm 1 rfl) ?_
  refine s_getR (r := 111) hC dX9_send_18 fk_9_107 ty_78 (fr_9_40 ty_78).1 ?_
  refine x_iload hC dX9_send_21 (lm 0 rfl) ?_
  refine x_iconst hC dX9_send_23 ic_1 ?_
  refine x_iadd hC dX9_send_24 ?_
  refine x_iload_n hC dX9_send_25 (lm 3 rfl) ?_
  obtain ⟨ho, hp⟩ := hp
  refine s_iast hC dX9_send_26 ((fr_9_40 ty_78).2) ho ?_
  refine x_aload_n hC dX9_send_27 (lm 1 rfl) ?_
  refine s_getR (r := 111) hC dX9_send_28 fk_9_107 ty_78 (fr_9_40 ty_78).1 ?_
  refine x_iload hC dX9_send_31 (lm 0 rfl) ?_
  refine x_iconst hC dX9_send_33 ic_2 ?_
  refine x_iadd hC dX9_send_34 ?_
  refine x_iload_n hC dX9_send_35 (lm 4 rfl) ?_
  obtain ⟨ho, hp⟩ := hp
  refine s_iast hC dX9_send_36 ((fr_9_40 ty_78).2) ho ?_
  refine x_aload_n hC dX9_send_37 (lm 1 rfl) ?_
  refine s_getR (r := 111) hC dX9_send_38 fk_9_107 ty_78 (fr_9_40 ty_78).1 ?_
  refine x_iload hC dX9_send_41 (lm 0 rfl) ?_
  refine x_iconst hC dX9_send_43 ic_3 ?_
  refine x_iadd hC dX9_send_44 ?_
  refine x_iload hC dX9_send_45 (lm 5 rfl) ?_
  obtain ⟨ho, hp⟩ := hp
  refine s_iast hC dX9_send_47 ((fr_9_40 ty_78).2) ho ?_
  refine x_aload_n hC dX9_send_48 (lm 1 rfl) ?_
  refine s_getR (r := 111) hC dX9_send_49 fk_9_107 ty_78 (fr_9_40 ty_78).1 ?_
  refine x_iload hC dX9_send_52 (lm 0 rfl) ?_
  refine x_iconst hC dX9_send_54 ic_4 ?_
  refine x_iadd hC dX9_send_55 ?_
  refine x_iload hC dX9_send_56 (lm 6 rfl) ?_
  obtain ⟨ho, hp⟩ := hp
  refine s_iast hC dX9_send_58 ((fr_9_40 ty_78).2) ho ?_
  refine x_aload_n hC dX9_send_59 (lm 1 rfl) ?_
  refine s_getR (r := 111) hC dX9_send_60 fk_9_107 ty_78 (fr_9_40 ty_78).1 ?_
  refine x_iload hC dX9_send_63 (lm 0 rfl) ?_
  refine x_iconst hC dX9_send_65 ic_5 ?_
  refine x_iadd hC dX9_send_66 ?_
  refine x_iconst hC dX9_send_67 ic_0 ?_
  obtain ⟨ho, hp⟩ := hp
  refine s_iast hC dX9_send_68 ((fr_9_40 ty_78).2) ho ?_
  refine x_aload_n hC dX9_send_69 (lm 1 rfl) ?_
  refine s_getR (r := 111) hC dX9_send_70 fk_9_107 ty_78 (fr_9_40 ty_78).1 ?_
  refine x_iload hC dX9_send_73 (lm 0 rfl) ?_
  refine x_bipush hC dX9_send_75 bp_6 ?_
  refine x_iadd hC dX9_send_77 ?_
  refine x_iconst hC dX9_send_78 ic_0 ?_
  obtain ⟨ho, hp⟩ := hp
  refine s_iast hC dX9_send_79 ((fr_9_40 ty_78).2) ho ?_
  refine x_aload_n hC dX9_send_80 (lm 1 rfl) ?_
  refine s_getR (r := 111) hC dX9_send_81 fk_9_107 ty_78 (fr_9_40 ty_78).1 ?_
  refine x_iload hC dX9_send_84 (lm 0 rfl) ?_
  refine x_bipush hC dX9_send_86 bp_7 ?_
  refine x_iadd hC dX9_send_88 ?_
  refine x_iconst hC dX9_send_89 ic_0 ?_
  obtain ⟨ho, hp⟩ := hp
  refine s_iast hC dX9_send_90 ((fr_9_40 ty_78).2) ho ?_
  refine x_aload_n hC dX9_send_91 (lm 1 rfl) ?_
  refine x_dup hC dX9_send_92 rfl ?_
  refine s_getI hC dX9_send_93 fk_9_154 ty_78 ?_
  refine x_iconst hC dX9_send_96 ic_1 ?_
  refine x_iadd hC dX9_send_97 ?_
  refine s_putI hC dX9_send_98 fk_9_154 rfl rfl ty_78 ?_
  refine x_aload_n hC dX9_send_101 (lm 1 rfl) ?_
  refine s_getR (r := 80) hC dX9_send_102 fk_9_13 ty_78 (fr_9_8 ty_78).1 ?_
  refine x_iconst hC dX9_send_105 ic_0 ?_
  refine x_dup2 hC dX9_send_106 rfl rfl ?_
  refine s_iald hC dX9_send_107 ((fr_9_8 ty_78).2) (vi (by decide)) ?_
  refine x_iconst hC dX9_send_108 ic_1 ?_
  refine x_iadd hC dX9_send_109 ?_
  refine s_iast hC dX9_send_110 ((fr_9_8 ty_78).2) (vi (by decide)) ?_
  refine x_iload hC dX9_send_111 (lm 0 rfl) ?_
  exact x_iret hC hE dX9_send_113 ⟨_, _, rfl, rfl, hp⟩
theorem dX9_drop_0 : decode cX9_drop 0 = .ok (.aload_n 0, 1) := by decide +kernel
theorem dX9_drop_1 : decode cX9_drop 1 = .ok (.dup, 1) := by decide +kernel
theorem dX9_drop_2 : decode cX9_drop 2 = .ok (.getfield 154, 3) := by decide +kernel
theorem dX9_drop_5 : decode cX9_drop 5 = .ok (.iconst 1, 1) := by decide +kernel
theorem dX9_drop_6 : decode cX9_drop 6 = .ok (.isub, 1) := by decide +kernel
theorem dX9_drop_7 : decode cX9_drop 7 = .ok (.putfield 154, 3) := by decide +kernel
theorem dX9_drop_10 : decode cX9_drop 10 = .ok (.bipush 8, 2) := by decide +kernel
theorem dX9_drop_12 : decode cX9_drop 12 = .ok (.iload_n 1, 1) := by decide +kernel
theorem dX9_drop_13 : decode cX9_drop 13 = .ok (.imul, 1) := by decide +kernel
theorem dX9_drop_14 : decode cX9_drop 14 = .ok (.istore_n 2, 1) := by decide +kernel
theorem dX9_drop_15 : decode cX9_drop 15 = .ok (.iload_n 2, 1) := by decide +kernel
theorem dX9_drop_16 : decode cX9_drop 16 = .ok (.bipush 8, 2) := by decide +kernel
theorem dX9_drop_18 : decode cX9_drop 18 = .ok (.aload_n 0, 1) := by decide +kernel
theorem dX9_drop_19 : decode cX9_drop 19 = .ok (.getfield 154, 3) := by decide +kernel
theorem dX9_drop_22 : decode cX9_drop 22 = .ok (.imul, 1) := by decide +kernel
theorem dX9_drop_23 : decode cX9_drop 23 = .ok (.if_icmp .ge 24, 3) := by decide +kernel
theorem dX9_drop_26 : decode cX9_drop 26 = .ok (.aload_n 0, 1) := by decide +kernel
theorem dX9_drop_27 : decode cX9_drop 27 = .ok (.getfield 107, 3) := by decide +kernel
theorem dX9_drop_30 : decode cX9_drop 30 = .ok (.iload_n 2, 1) := by decide +kernel
theorem dX9_drop_31 : decode cX9_drop 31 = .ok (.aload_n 0, 1) := by decide +kernel
theorem dX9_drop_32 : decode cX9_drop 32 = .ok (.getfield 107, 3) := by decide +kernel
theorem dX9_drop_35 : decode cX9_drop 35 = .ok (.iload_n 2, 1) := by decide +kernel
theorem dX9_drop_36 : decode cX9_drop 36 = .ok (.bipush 8, 2) := by decide +kernel
theorem dX9_drop_38 : decode cX9_drop 38 = .ok (.iadd, 1) := by decide +kernel
theorem dX9_drop_39 : decode cX9_drop 39 = .ok (.iaload, 1) := by decide +kernel
theorem dX9_drop_40 : decode cX9_drop 40 = .ok (.iastore, 1) := by decide +kernel
theorem dX9_drop_41 : decode cX9_drop 41 = .ok (.iinc 2 1, 3) := by decide +kernel
theorem dX9_drop_44 : decode cX9_drop 44 = .ok (.goto (-29), 3) := by decide +kernel
theorem dX9_drop_47 : decode cX9_drop 47 = .ok (.bipush 32, 2) := by decide +kernel
theorem dX9_drop_49 : decode cX9_drop 49 = .ok (.iload_n 1, 1) := by decide +kernel
theorem dX9_drop_50 : decode cX9_drop 50 = .ok (.imul, 1) := by decide +kernel
theorem dX9_drop_51 : decode cX9_drop 51 = .ok (.istore_n 2, 1) := by decide +kernel
theorem dX9_drop_52 : decode cX9_drop 52 = .ok (.iload_n 2, 1) := by decide +kernel
theorem dX9_drop_53 : decode cX9_drop 53 = .ok (.bipush 32, 2) := by decide +kernel
theorem dX9_drop_55 : decode cX9_drop 55 = .ok (.aload_n 0, 1) := by decide +kernel
theorem dX9_drop_56 : decode cX9_drop 56 = .ok (.getfield 154, 3) := by decide +kernel
theorem dX9_drop_59 : decode cX9_drop 59 = .ok (.imul, 1) := by decide +kernel
theorem dX9_drop_60 : decode cX9_drop 60 = .ok (.if_icmp .ge 24, 3) := by decide +kernel
theorem dX9_drop_63 : decode cX9_drop 63 = .ok (.aload_n 0, 1) := by decide +kernel
theorem dX9_drop_64 : decode cX9_drop 64 = .ok (.getfield 110, 3) := by decide +kernel
theorem dX9_drop_67 : decode cX9_drop 67 = .ok (.iload_n 2, 1) := by decide +kernel
theorem dX9_drop_68 : decode cX9_drop 68 = .ok (.aload_n 0, 1) := by decide +kernel
theorem dX9_drop_69 : decode cX9_drop 69 = .ok (.getfield 110, 3) := by decide +kernel
theorem dX9_drop_72 : decode cX9_drop 72 = .ok (.iload_n 2, 1) := by decide +kernel
theorem dX9_drop_73 : decode cX9_drop 73 = .ok (.bipush 32, 2) := by decide +kernel
theorem dX9_drop_75 : decode cX9_drop 75 = .ok (.iadd, 1) := by decide +kernel
theorem dX9_drop_76 : decode cX9_drop 76 = .ok (.iaload, 1) := by decide +kernel
theorem dX9_drop_77 : decode cX9_drop 77 = .ok (.iastore, 1) := by decide +kernel
theorem dX9_drop_78 : decode cX9_drop 78 = .ok (.iinc 2 1, 3) := by decide +kernel
theorem dX9_drop_81 : decode cX9_drop 81 = .ok (.goto (-29), 3) := by decide +kernel
theorem dX9_drop_84 : decode cX9_drop 84 = .ok (.return_, 1) := by decide +kernel
abbrev rm_X9_drop : Room := { frames := 0, cells := 0, slots := 0, locals := 0 }
def P_X9_drop (i1 : Int32) (h : HP) (Q : HP → Prop) : Prop := Lp2 (fun X_15 (i2_15 : Int32) (h_15 : HP) => (((8 * (h_15.1 78 39)) ≤ i2_15) → (Lp2 (fun X_52 (i2_52 : Int32) (h_52 : HP) => (((32 * (h_52.1 78 39)) ≤ i2_52) → Q h_52) ∧ ((¬ (32 * (h_52.1 78 39)) ≤ i2_52) → ((vp_in (i2_52 + 32) 512) ∧ ((vp_in i2_52 512) ∧ (X_52 (i2_52 + 1) (si h_52 112 i2_52.toNatClampNeg (h_52.1 112 (i2_52 + 32).toNatClampNeg))))))) (32 * i1) h_15)) ∧ ((¬ (8 * (h_15.1 78 39)) ≤ i2_15) → ((vp_in (i2_15 + 8) 128) ∧ ((vp_in i2_15 128) ∧ (X_15 (i2_15 + 1) (si h_15 111 i2_15.toNatClampNeg (h_15.1 111 (i2_15 + 8).toNatClampNeg))))))) (8 * i1) (si h 78 39 ((h.1 78 39) - 1))
set_option maxHeartbeats 4000000 in
theorem t_X9_drop {i1 : Int32} {h : HP} {Q : HP → Prop}  (hp : P_X9_drop i1 h Q) : MT yX9_drop cX9_drop 3 none rm_X9_drop [.ref 78, .int i1] gM SH (emb h) (pV Q) := by
  refine MT.of (by decide +kernel) (Nat.le_of_ble_eq_true rfl) (fun C hC hE => ?_)
  show SW C gM 0 [(0, .ref 78), (1, .int i1)] [] h
  unfold P_X9_drop at hp
  refine x_aload_n hC dX9_drop_0 (lm 0 rfl) ?_
  refine x_dup hC dX9_drop_1 rfl ?_
  refine s_getI hC dX9_drop_2 fk_9_154 ty_78 ?_
  refine x_iconst hC dX9_drop_5 ic_1 ?_
  refine x_isub hC dX9_drop_6 ?_
  refine s_putI hC dX9_drop_7 fk_9_154 rfl rfl ty_78 ?_
  refine x_bipush hC dX9_drop_10 bp_8 ?_
  refine x_iload_n hC dX9_drop_12 (lm 1 rfl) ?_
  refine x_imul hC dX9_drop_13 ?_
  refine x_istore_n (lv' := [(2, .int (8 * i1)), (0, .ref 78), (1, .int i1)]) hC dX9_drop_14 (by decide) rfl ?_
  refine x_subk (lv' := [(0, .ref 78), (1, .int i1), (2, .int (8 * i1))]) [1, 2, 0] rfl ?_
  refine hp (fun i2_15 h_15 => SW C gM 15 [(0, .ref 78), (1, .int i1), (2, .int i2_15)] [] h_15) (fun i2_15 h_15 hp => ?_)
  refine x_iload_n hC dX9_drop_15 (lm 2 rfl) ?_
  refine x_bipush hC dX9_drop_16 bp_8 ?_
  refine x_aload_n hC dX9_drop_18 (lm 0 rfl) ?_
  refine s_getI hC dX9_drop_19 fk_9_154 ty_78 ?_
  refine x_imul hC dX9_drop_22 ?_
  refine x_icmp_ge (tgt := 47) hC dX9_drop_23 (by decide) (fun hc => ?_) (fun hc => ?_)
  · have hp := hp.1 hc
    refine x_bipush hC dX9_drop_47 bp_32 ?_
    refine x_iload_n hC dX9_drop_49 (lm 1 rfl) ?_
    refine x_imul hC dX9_drop_50 ?_
    refine x_istore_n (lv' := [(2, .int (32 * i1)), (0, .ref 78), (1, .int i1)]) hC dX9_drop_51 (by decide) rfl ?_
    refine x_subk (lv' := [(0, .ref 78), (2, .int (32 * i1))]) [1, 0] rfl ?_
    refine hp (fun i2_52 h_52 => SW C gM 52 [(0, .ref 78), (2, .int i2_52)] [] h_52) (fun i2_52 h_52 hp => ?_)
    refine x_iload_n hC dX9_drop_52 (lm 1 rfl) ?_
    refine x_bipush hC dX9_drop_53 bp_32 ?_
    refine x_aload_n hC dX9_drop_55 (lm 0 rfl) ?_
    refine s_getI hC dX9_drop_56 fk_9_154 ty_78 ?_
    refine x_imul hC dX9_drop_59 ?_
    refine x_icmp_ge (tgt := 84) hC dX9_drop_60 (by decide) (fun hc => ?_) (fun hc => ?_)
    · have hp := hp.1 hc
      exact x_vret hC hE dX9_drop_84 ⟨_, rfl, rfl, hp⟩
    · have hp := hp.2 hc
      refine x_aload_n hC dX9_drop_63 (lm 0 rfl) ?_
      refine s_getR (r := 112) hC dX9_drop_64 fk_9_110 ty_78 (fr_9_41 ty_78).1 ?_
      refine x_iload_n hC dX9_drop_67 (lm 1 rfl) ?_
      refine x_aload_n hC dX9_drop_68 (lm 0 rfl) ?_
      refine s_getR (r := 112) hC dX9_drop_69 fk_9_110 ty_78 (fr_9_41 ty_78).1 ?_
      refine x_iload_n hC dX9_drop_72 (lm 1 rfl) ?_
      refine x_bipush hC dX9_drop_73 bp_32 ?_
      refine x_iadd hC dX9_drop_75 ?_
      obtain ⟨ho, hp⟩ := hp
      refine s_iald hC dX9_drop_76 ((fr_9_41 ty_78).2) ho ?_
      obtain ⟨ho, hp⟩ := hp
      refine s_iast hC dX9_drop_77 ((fr_9_41 ty_78).2) ho ?_
      refine x_iinc (u := i2_52 + 1) (lv' := [(2, .int (i2_52 + 1)), (0, .ref 78)]) hC dX9_drop_78 (lm 1 rfl) (congrArg _ ic_1) (by decide) rfl ?_
      refine x_goto (tgt := 52) hC dX9_drop_81 (by decide) ?_
      exact x_subk [1, 0] rfl hp
  · have hp := hp.2 hc
    refine x_aload_n hC dX9_drop_26 (lm 0 rfl) ?_
    refine s_getR (r := 111) hC dX9_drop_27 fk_9_107 ty_78 (fr_9_40 ty_78).1 ?_
    refine x_iload_n hC dX9_drop_30 (lm 2 rfl) ?_
    refine x_aload_n hC dX9_drop_31 (lm 0 rfl) ?_
    refine s_getR (r := 111) hC dX9_drop_32 fk_9_107 ty_78 (fr_9_40 ty_78).1 ?_
    refine x_iload_n hC dX9_drop_35 (lm 2 rfl) ?_
    refine x_bipush hC dX9_drop_36 bp_8 ?_
    refine x_iadd hC dX9_drop_38 ?_
    obtain ⟨ho, hp⟩ := hp
    refine s_iald hC dX9_drop_39 ((fr_9_40 ty_78).2) ho ?_
    obtain ⟨ho, hp⟩ := hp
    refine s_iast hC dX9_drop_40 ((fr_9_40 ty_78).2) ho ?_
    refine x_iinc (u := i2_15 + 1) (lv' := [(2, .int (i2_15 + 1)), (0, .ref 78), (1, .int i1)]) hC dX9_drop_41 (lm 2 rfl) (congrArg _ ic_1) (by decide) rfl ?_
    refine x_goto (tgt := 15) hC dX9_drop_44 (by decide) ?_
    exact x_subk [1, 2, 0] rfl hp
theorem dX9_loseNow_0 : decode cX9_loseNow 0 = .ok (.aload_n 0, 1) := by decide +kernel
theorem dX9_loseNow_1 : decode cX9_loseNow 1 = .ok (.getfield 107, 3) := by decide +kernel
theorem dX9_loseNow_4 : decode cX9_loseNow 4 = .ok (.bipush 8, 2) := by decide +kernel
theorem dX9_loseNow_6 : decode cX9_loseNow 6 = .ok (.iload_n 1, 1) := by decide +kernel
theorem dX9_loseNow_7 : decode cX9_loseNow 7 = .ok (.imul, 1) := by decide +kernel
theorem dX9_loseNow_8 : decode cX9_loseNow 8 = .ok (.iaload, 1) := by decide +kernel
theorem dX9_loseNow_9 : decode cX9_loseNow 9 = .ok (.istore_n 2, 1) := by decide +kernel
theorem dX9_loseNow_10 : decode cX9_loseNow 10 = .ok (.aload_n 0, 1) := by decide +kernel
theorem dX9_loseNow_11 : decode cX9_loseNow 11 = .ok (.iload_n 1, 1) := by decide +kernel
theorem dX9_loseNow_12 : decode cX9_loseNow 12 = .ok (.invokevirtual 164, 3) := by decide +kernel
theorem dX9_loseNow_15 : decode cX9_loseNow 15 = .ok (.aload_n 0, 1) := by decide +kernel
theorem dX9_loseNow_16 : decode cX9_loseNow 16 = .ok (.getfield 13, 3) := by decide +kernel
theorem dX9_loseNow_19 : decode cX9_loseNow 19 = .ok (.iconst 1, 1) := by decide +kernel
theorem dX9_loseNow_20 : decode cX9_loseNow 20 = .ok (.dup2, 1) := by decide +kernel
theorem dX9_loseNow_21 : decode cX9_loseNow 21 = .ok (.iaload, 1) := by decide +kernel
theorem dX9_loseNow_22 : decode cX9_loseNow 22 = .ok (.iconst 1, 1) := by decide +kernel
theorem dX9_loseNow_23 : decode cX9_loseNow 23 = .ok (.iadd, 1) := by decide +kernel
theorem dX9_loseNow_24 : decode cX9_loseNow 24 = .ok (.iastore, 1) := by decide +kernel
theorem dX9_loseNow_25 : decode cX9_loseNow 25 = .ok (.iload_n 2, 1) := by decide +kernel
theorem dX9_loseNow_26 : decode cX9_loseNow 26 = .ok (.ireturn, 1) := by decide +kernel
abbrev rm_X9_loseNow : Room := { frames := 1, cells := 0, slots := 0, locals := 22 }
def P_X9_loseNow (i1 : Int32) (h : HP) (Q : Int32 → HP → Prop) : Prop := (vp_in (8 * i1) 128) ∧ (P_X9_drop i1 h (fun (h_12 : HP) => Q (h.1 111 (8 * i1).toNatClampNeg) (si h_12 80 1 ((h_12.1 80 1) + 1))))
set_option maxHeartbeats 4000000 in
theorem t_X9_loseNow {i1 : Int32} {h : HP} {Q : Int32 → HP → Prop}  (hp : P_X9_loseNow i1 h Q) : MT yX9_loseNow cX9_loseNow 3 (some .int) rm_X9_loseNow [.ref 78, .int i1] gM SH (emb h) (pI Q) := by
  refine MT.of (by decide +kernel) (Nat.le_of_ble_eq_true rfl) (fun C hC hE => ?_)
  show SW C gM 0 [(0, .ref 78), (1, .int i1)] [] h
  unfold P_X9_loseNow at hp
  refine x_aload_n hC dX9_loseNow_0 (lm 0 rfl) ?_
  refine s_getR (r := 111) hC dX9_loseNow_1 fk_9_107 ty_78 (fr_9_40 ty_78).1 ?_
  refine x_bipush hC dX9_loseNow_4 bp_8 ?_
  refine x_iload_n hC dX9_loseNow_6 (lm 1 rfl) ?_
  refine x_imul hC dX9_loseNow_7 ?_
  obtain ⟨ho, hp⟩ := hp
  refine s_iald hC dX9_loseNow_8 ((fr_9_40 ty_78).2) ho ?_
  refine x_istore_n (lv' := [(2, .int (h.1 111 (8 * i1).toNatClampNeg)), (0, .ref 78), (1, .int i1)]) hC dX9_loseNow_9 (by decide) rfl ?_
  refine x_aload_n hC dX9_loseNow_10 (lm 1 rfl) ?_
  refine x_iload_n hC dX9_loseNow_11 (lm 2 rfl) ?_
  refine s_callVv (avs := [.int i1]) (st := []) hC dX9_loseNow_12 ml_9_164 mi_X9_drop ty_78 rfl (t_X9_drop  hp) (Nat.le_of_ble_eq_true rfl) ⟨rfl, rfl⟩ ⟨Nat.le_of_ble_eq_true rfl, Nat.le_of_ble_eq_true rfl⟩ (fun h_12 hp => ?_)
  refine x_aload_n hC dX9_loseNow_15 (lm 1 rfl) ?_
  refine s_getR (r := 80) hC dX9_loseNow_16 fk_9_13 ty_78 (fr_9_8 ty_78).1 ?_
  refine x_iconst hC dX9_loseNow_19 ic_1 ?_
  refine x_dup2 hC dX9_loseNow_20 rfl rfl ?_
  refine s_iald hC dX9_loseNow_21 ((fr_9_8 ty_78).2) (vi (by decide)) ?_
  refine x_iconst hC dX9_loseNow_22 ic_1 ?_
  refine x_iadd hC dX9_loseNow_23 ?_
  refine s_iast hC dX9_loseNow_24 ((fr_9_8 ty_78).2) (vi (by decide)) ?_
  refine x_iload_n hC dX9_loseNow_25 (lm 0 rfl) ?_
  exact x_iret hC hE dX9_loseNow_26 ⟨_, _, rfl, rfl, hp⟩
theorem dX9_isUnderWay_0 : decode cX9_isUnderWay 0 = .ok (.iconst 0, 1) := by decide +kernel
theorem dX9_isUnderWay_1 : decode cX9_isUnderWay 1 = .ok (.istore_n 2, 1) := by decide +kernel
theorem dX9_isUnderWay_2 : decode cX9_isUnderWay 2 = .ok (.iconst 0, 1) := by decide +kernel
theorem dX9_isUnderWay_3 : decode cX9_isUnderWay 3 = .ok (.istore_n 3, 1) := by decide +kernel
theorem dX9_isUnderWay_4 : decode cX9_isUnderWay 4 = .ok (.iload_n 3, 1) := by decide +kernel
theorem dX9_isUnderWay_5 : decode cX9_isUnderWay 5 = .ok (.aload_n 0, 1) := by decide +kernel
theorem dX9_isUnderWay_6 : decode cX9_isUnderWay 6 = .ok (.getfield 154, 3) := by decide +kernel
theorem dX9_isUnderWay_9 : decode cX9_isUnderWay 9 = .ok (.if_icmp .ge 34, 3) := by decide +kernel
theorem dX9_isUnderWay_12 : decode cX9_isUnderWay 12 = .ok (.iload_n 2, 1) := by decide +kernel
theorem dX9_isUnderWay_13 : decode cX9_isUnderWay 13 = .ok (.ifCond .ne 18, 3) := by decide +kernel
theorem dX9_isUnderWay_16 : decode cX9_isUnderWay 16 = .ok (.aload_n 0, 1) := by decide +kernel
theorem dX9_isUnderWay_17 : decode cX9_isUnderWay 17 = .ok (.getfield 107, 3) := by decide +kernel
theorem dX9_isUnderWay_20 : decode cX9_isUnderWay 20 = .ok (.bipush 8, 2) := by decide +kernel
theorem dX9_isUnderWay_22 : decode cX9_isUnderWay 22 = .ok (.iload_n 3, 1) := by decide +kernel
theorem dX9_isUnderWay_23 : decode cX9_isUnderWay 23 = .ok (.imul, 1) := by decide +kernel
theorem dX9_isUnderWay_24 : decode cX9_isUnderWay 24 = .ok (.iconst 1, 1) := by decide +kernel
theorem dX9_isUnderWay_25 : decode cX9_isUnderWay 25 = .ok (.iadd, 1) := by decide +kernel
theorem dX9_isUnderWay_26 : decode cX9_isUnderWay 26 = .ok (.iaload, 1) := by decide +kernel
theorem dX9_isUnderWay_27 : decode cX9_isUnderWay 27 = .ok (.iload_n 1, 1) := by decide +kernel
theorem dX9_isUnderWay_28 : decode cX9_isUnderWay 28 = .ok (.if_icmp .ne 7, 3) := by decide +kernel
theorem dX9_isUnderWay_31 : decode cX9_isUnderWay 31 = .ok (.iconst 1, 1) := by decide +kernel
theorem dX9_isUnderWay_32 : decode cX9_isUnderWay 32 = .ok (.goto 4, 3) := by decide +kernel
theorem dX9_isUnderWay_35 : decode cX9_isUnderWay 35 = .ok (.iconst 0, 1) := by decide +kernel
theorem dX9_isUnderWay_36 : decode cX9_isUnderWay 36 = .ok (.istore_n 2, 1) := by decide +kernel
theorem dX9_isUnderWay_37 : decode cX9_isUnderWay 37 = .ok (.iinc 3 1, 3) := by decide +kernel
theorem dX9_isUnderWay_40 : decode cX9_isUnderWay 40 = .ok (.goto (-36), 3) := by decide +kernel
theorem dX9_isUnderWay_43 : decode cX9_isUnderWay 43 = .ok (.iload_n 2, 1) := by decide +kernel
theorem dX9_isUnderWay_44 : decode cX9_isUnderWay 44 = .ok (.ireturn, 1) := by decide +kernel
abbrev rm_X9_isUnderWay : Room := { frames := 0, cells := 0, slots := 0, locals := 0 }
def P_X9_isUnderWay (i1 : Int32) (h : HP) (Q : Int32 → HP → Prop) : Prop := Lp3 (fun X_4 (i2_4 : Int32) (i3_4 : Int32) (h_4 : HP) => (((h_4.1 78 39) ≤ i3_4) → ((i2_4 = 0 ∨ i2_4 = 1) ∧ Q i2_4 h_4)) ∧ ((¬ (h_4.1 78 39) ≤ i3_4) → (((¬ i2_4 = 0) → (X_4 1 (i3_4 + 1) h_4)) ∧ ((i2_4 = 0) → ((vp_in ((8 * i3_4) + 1) 128) ∧ (((¬ (h_4.1 111 ((8 * i3_4) + 1).toNatClampNeg) = i1) → (X_4 0 (i3_4 + 1) h_4)) ∧ (((h_4.1 111 ((8 * i3_4) + 1).toNatClampNeg) = i1) → (X_4 1 (i3_4 + 1) h_4)))))))) 0 0 h
set_option maxHeartbeats 4000000 in
theorem t_X9_isUnderWay {i1 : Int32} {h : HP} {Q : Int32 → HP → Prop}  (hp : P_X9_isUnderWay i1 h Q) : MT yX9_isUnderWay cX9_isUnderWay 4 (some .boolean) rm_X9_isUnderWay [.ref 78, .int i1] gM SH (emb h) (pI Q) := by
  refine MT.of (by decide +kernel) (Nat.le_of_ble_eq_true rfl) (fun C hC hE => ?_)
  show SW C gM 0 [(0, .ref 78), (1, .int i1)] [] h
  unfold P_X9_isUnderWay at hp
  refine x_iconst hC dX9_isUnderWay_0 ic_0 ?_
  refine x_istore_n (lv' := [(2, .int 0), (0, .ref 78), (1, .int i1)]) hC dX9_isUnderWay_1 (by decide) rfl ?_
  refine x_iconst hC dX9_isUnderWay_2 ic_0 ?_
  refine x_istore_n (lv' := [(3, .int 0), (2, .int 0), (0, .ref 78), (1, .int i1)]) hC dX9_isUnderWay_3 (by decide) rfl ?_
  refine x_subk (lv' := [(0, .ref 78), (1, .int i1), (2, .int 0), (3, .int 0)]) [2, 3, 1, 0] rfl ?_
  refine hp (fun i2_4 i3_4 h_4 => SW C gM 4 [(0, .ref 78), (1, .int i1), (2, .int i2_4), (3, .int i3_4)] [] h_4) (fun i2_4 i3_4 h_4 hp => ?_)
  refine x_iload_n hC dX9_isUnderWay_4 (lm 3 rfl) ?_
  refine x_aload_n hC dX9_isUnderWay_5 (lm 0 rfl) ?_
  refine s_getI hC dX9_isUnderWay_6 fk_9_154 ty_78 ?_
  refine x_icmp_ge (tgt := 43) hC dX9_isUnderWay_9 (by decide) (fun hc => ?_) (fun hc => ?_)
  · have hp := hp.1 hc
    refine x_iload_n hC dX9_isUnderWay_43 (lm 2 rfl) ?_
    obtain ⟨ho, hp⟩ := hp
    exact x_zret hC hE dX9_isUnderWay_44 ho ⟨_, _, rfl, rfl, hp⟩
  · have hp := hp.2 hc
    refine x_iload_n hC dX9_isUnderWay_12 (lm 2 rfl) ?_
    refine x_if_ne (tgt := 31) hC dX9_isUnderWay_13 (by decide) (fun hc => ?_) (fun hc => ?_)
    · have hp := hp.1 hc
      refine x_iconst hC dX9_isUnderWay_31 ic_1 ?_
      refine x_goto (tgt := 36) hC dX9_isUnderWay_32 (by decide) ?_
      refine x_istore_n (lv' := [(2, .int 1), (0, .ref 78), (1, .int i1), (3, .int i3_4)]) hC dX9_isUnderWay_36 (by decide) rfl ?_
      refine x_iinc (u := i3_4 + 1) (lv' := [(3, .int (i3_4 + 1)), (2, .int 1), (0, .ref 78), (1, .int i1)]) hC dX9_isUnderWay_37 (lm 3 rfl) (congrArg _ ic_1) (by decide) rfl ?_
      refine x_goto (tgt := 4) hC dX9_isUnderWay_40 (by decide) ?_
      exact x_subk [2, 3, 1, 0] rfl hp
    · have hp := hp.2 hc
      refine x_aload_n hC dX9_isUnderWay_16 (lm 0 rfl) ?_
      refine s_getR (r := 111) hC dX9_isUnderWay_17 fk_9_107 ty_78 (fr_9_40 ty_78).1 ?_
      refine x_bipush hC dX9_isUnderWay_20 bp_8 ?_
      refine x_iload_n hC dX9_isUnderWay_22 (lm 3 rfl) ?_
      refine x_imul hC dX9_isUnderWay_23 ?_
      refine x_iconst hC dX9_isUnderWay_24 ic_1 ?_
      refine x_iadd hC dX9_isUnderWay_25 ?_
      obtain ⟨ho, hp⟩ := hp
      refine s_iald hC dX9_isUnderWay_26 ((fr_9_40 ty_78).2) ho ?_
      refine x_iload_n hC dX9_isUnderWay_27 (lm 1 rfl) ?_
      refine x_icmp_ne (tgt := 35) hC dX9_isUnderWay_28 (by decide) (fun hc => ?_) (fun hc => ?_)
      · have hp := hp.1 hc
        refine x_iconst hC dX9_isUnderWay_35 ic_0 ?_
        refine x_istore_n (lv' := [(2, .int 0), (0, .ref 78), (1, .int i1), (3, .int i3_4)]) hC dX9_isUnderWay_36 (by decide) rfl ?_
        refine x_iinc (u := i3_4 + 1) (lv' := [(3, .int (i3_4 + 1)), (2, .int 0), (0, .ref 78), (1, .int i1)]) hC dX9_isUnderWay_37 (lm 3 rfl) (congrArg _ ic_1) (by decide) rfl ?_
        refine x_goto (tgt := 4) hC dX9_isUnderWay_40 (by decide) ?_
        exact x_subk [2, 3, 1, 0] rfl hp
      · have hp := hp.2 hc
        refine x_iconst hC dX9_isUnderWay_31 ic_1 ?_
        refine x_goto (tgt := 36) hC dX9_isUnderWay_32 (by decide) ?_
        refine x_istore_n (lv' := [(2, .int 1), (0, .ref 78), (1, .int i1), (3, .int i3_4)]) hC dX9_isUnderWay_36 (by decide) rfl ?_
        refine x_iinc (u := i3_4 + 1) (lv' := [(3, .int (i3_4 + 1)), (2, .int 1), (0, .ref 78), (1, .int i1)]) hC dX9_isUnderWay_37 (lm 3 rfl) (congrArg _ ic_1) (by decide) rfl ?_
        refine x_goto (tgt := 4) hC dX9_isUnderWay_40 (by decide) ?_
        exact x_subk [2, 3, 1, 0] rfl hp
theorem dX9_turned_0 : decode cX9_turned 0 = .ok (.iload_n 0, 1) := by decide +kernel
theorem dX9_turned_1 : decode cX9_turned 1 = .ok (.iload_n 1, 1) := by decide +kernel
theorem dX9_turned_2 : decode cX9_turned 2 = .ok (.ixor, 1) := by decide +kernel
theorem dX9_turned_3 : decode cX9_turned 3 = .ok (.istore_n 2, 1) := by decide +kernel
theorem dX9_turned_4 : decode cX9_turned 4 = .ok (.iconst 0, 1) := by decide +kernel
theorem dX9_turned_5 : decode cX9_turned 5 = .ok (.istore_n 3, 1) := by decide +kernel
theorem dX9_turned_6 : decode cX9_turned 6 = .ok (.iload_n 3, 1) := by decide +kernel
theorem dX9_turned_7 : decode cX9_turned 7 = .ok (.bipush 8, 2) := by decide +kernel
theorem dX9_turned_9 : decode cX9_turned 9 = .ok (.if_icmp .ge 45, 3) := by decide +kernel
theorem dX9_turned_12 : decode cX9_turned 12 = .ok (.iload_n 2, 1) := by decide +kernel
theorem dX9_turned_13 : decode cX9_turned 13 = .ok (.sipush 128, 3) := by decide +kernel
theorem dX9_turned_16 : decode cX9_turned 16 = .ok (.if_icmp .lt 7, 3) := by decide +kernel
theorem dX9_turned_19 : decode cX9_turned 19 = .ok (.iconst 1, 1) := by decide +kernel
theorem dX9_turned_20 : decode cX9_turned 20 = .ok (.goto 4, 3) := by decide +kernel
theorem dX9_turned_23 : decode cX9_turned 23 = .ok (.iconst 0, 1) := by decide +kernel
theorem dX9_turned_24 : decode cX9_turned 24 = .ok (.istore 4, 2) := by decide +kernel
theorem dX9_turned_26 : decode cX9_turned 26 = .ok (.iload_n 2, 1) := by decide +kernel
theorem dX9_turned_27 : decode cX9_turned 27 = .ok (.iconst 2, 1) := by decide +kernel
theorem dX9_turned_28 : decode cX9_turned 28 = .ok (.imul, 1) := by decide +kernel
theorem dX9_turned_29 : decode cX9_turned 29 = .ok (.sipush 256, 3) := by decide +kernel
theorem dX9_turned_32 : decode cX9_turned 32 = .ok (.irem, 1) := by decide +kernel
theorem dX9_turned_33 : decode cX9_turned 33 = .ok (.istore_n 2, 1) := by decide +kernel
theorem dX9_turned_34 : decode cX9_turned 34 = .ok (.iload 4, 2) := by decide +kernel
theorem dX9_turned_36 : decode cX9_turned 36 = .ok (.ifCond .eq 10, 3) := by decide +kernel
theorem dX9_turned_39 : decode cX9_turned 39 = .ok (.iload_n 2, 1) := by decide +kernel
theorem dX9_turned_40 : decode cX9_turned 40 = .ok (.bipush 7, 2) := by decide +kernel
theorem dX9_turned_42 : decode cX9_turned 42 = .ok (.ixor, 1) := by decide +kernel
theorem dX9_turned_43 : decode cX9_turned 43 = .ok (.goto 4, 3) := by decide +kernel
theorem dX9_turned_46 : decode cX9_turned 46 = .ok (.iload_n 2, 1) := by decide +kernel
theorem dX9_turned_47 : decode cX9_turned 47 = .ok (.istore_n 2, 1) := by decide +kernel
theorem dX9_turned_48 : decode cX9_turned 48 = .ok (.iinc 3 1, 3) := by decide +kernel
theorem dX9_turned_51 : decode cX9_turned 51 = .ok (.goto (-45), 3) := by decide +kernel
theorem dX9_turned_54 : decode cX9_turned 54 = .ok (.iload_n 2, 1) := by decide +kernel
theorem dX9_turned_55 : decode cX9_turned 55 = .ok (.ireturn, 1) := by decide +kernel
abbrev rm_X9_turned : Room := { frames := 0, cells := 0, slots := 0, locals := 0 }
def P_X9_turned_j26 (i2 : Int32) (i3 : Int32) (i4 : Int32) (h : HP) (X_6 : Int32 → Int32 → HP → Prop) (Q : Int32 → HP → Prop) : Prop := ((i4 = 0) → (X_6 ((i2 * 2) - (i2 * 2) / 256 * 256) (i3 + 1) h)) ∧ ((¬ i4 = 0) → (X_6 (((i2 * 2) - (i2 * 2) / 256 * 256) ^^^ 7) (i3 + 1) h))
def P_X9_turned (i0 : Int32) (i1 : Int32) (h : HP) (Q : Int32 → HP → Prop) : Prop := Lp3 (fun X_6 (i2_6 : Int32) (i3_6 : Int32) (h_6 : HP) => ((8 ≤ i3_6) → Q i2_6 h_6) ∧ ((¬ 8 ≤ i3_6) → (((i2_6 < 128) → P_X9_turned_j26 i2_6 i3_6 0 h_6 X_6 Q) ∧ ((¬ i2_6 < 128) → P_X9_turned_j26 i2_6 i3_6 1 h_6 X_6 Q)))) (i0 ^^^ i1) 0 h
set_option maxHeartbeats 4000000 in
theorem l_X9_turned_j26 {i2 : Int32} {i3 : Int32} {i4 : Int32} {h : HP} {X_6 : Int32 → Int32 → HP → Prop} {Q : Int32 → HP → Prop} {C : Cx} (hC : xOk C cX9_turned yX9_turned.cls 5 rm_X9_turned (some .int)) (hE : xEnd C gM SH (pI Q))  (hX_6 : ∀ (x2 : Int32) (x3 : Int32) (hx : HP), X_6 x2 x3 hx → SW C gM 6 [(2, .int x2), (3, .int x3)] [] hx) (hp : P_X9_turned_j26 i2 i3 i4 h X_6 Q) : SW C gM 26 [(2, .int i2), (3, .int i3), (4, .int i4)] [] h := by
  unfold P_X9_turned_j26 at hp
  refine x_iload_n hC dX9_turned_26 (lm 0 rfl) ?_
  refine x_iconst hC dX9_turned_27 ic_2 ?_
  refine x_imul hC dX9_turned_28 ?_
  refine x_sipush hC dX9_turned_29 sp_256 ?_
  refine x_irem hC dX9_turned_32 (by decide) ?_
  refine x_istore_n (lv' := [(2, .int ((i2 * 2) - (i2 * 2) / 256 * 256)), (3, .int i3), (4, .int i4)]) hC dX9_turned_33 (by decide) rfl ?_
  refine x_iload hC dX9_turned_34 (lm 2 rfl) ?_
  refine x_if_eq (tgt := 46) hC dX9_turned_36 (by decide) (fun hc => ?_) (fun hc => ?_)
  · have hp := hp.1 hc
    refine x_iload_n hC dX9_turned_46 (lm 0 rfl) ?_
    refine x_istore_n (lv' := [(2, .int ((i2 * 2) - (i2 * 2) / 256 * 256)), (3, .int i3), (4, .int i4)]) hC dX9_turned_47 (by decide) rfl ?_
    refine x_iinc (u := i3 + 1) (lv' := [(3, .int (i3 + 1)), (2, .int ((i2 * 2) - (i2 * 2) / 256 * 256)), (4, .int i4)]) hC dX9_turned_48 (lm 1 rfl) (congrArg _ ic_1) (by decide) rfl ?_
    refine x_goto (tgt := 6) hC dX9_turned_51 (by decide) ?_
    exact x_subk [1, 0] rfl (hX_6 _ _ _ hp)
  · have hp := hp.2 hc
    refine x_iload_n hC dX9_turned_39 (lm 0 rfl) ?_
    refine x_bipush hC dX9_turned_40 bp_7 ?_
    refine x_ixor hC dX9_turned_42 ?_
    refine x_goto (tgt := 47) hC dX9_turned_43 (by decide) ?_
    refine x_istore_n (lv' := [(2, .int (((i2 * 2) - (i2 * 2) / 256 * 256) ^^^ 7)), (3, .int i3), (4, .int i4)]) hC dX9_turned_47 (by decide) rfl ?_
    refine x_iinc (u := i3 + 1) (lv' := [(3, .int (i3 + 1)), (2, .int (((i2 * 2) - (i2 * 2) / 256 * 256) ^^^ 7)), (4, .int i4)]) hC dX9_turned_48 (lm 1 rfl) (congrArg _ ic_1) (by decide) rfl ?_
    refine x_goto (tgt := 6) hC dX9_turned_51 (by decide) ?_
    exact x_subk [1, 0] rfl (hX_6 _ _ _ hp)
set_option maxHeartbeats 4000000 in
theorem t_X9_turned {i0 : Int32} {i1 : Int32} {h : HP} {Q : Int32 → HP → Prop}  (hp : P_X9_turned i0 i1 h Q) : MT yX9_turned cX9_turned 5 (some .int) rm_X9_turned [.int i0, .int i1] gM SH (emb h) (pI Q) := by
  refine MT.of (by decide +kernel) (Nat.le_of_ble_eq_true rfl) (fun C hC hE => ?_)
  show SW C gM 0 [(0, .int i0), (1, .int i1)] [] h
  unfold P_X9_turned at hp
  refine x_iload_n hC dX9_turned_0 (lm 0 rfl) ?_
  refine x_iload_n hC dX9_turned_1 (lm 1 rfl) ?_
  refine x_ixor hC dX9_turned_2 ?_
  refine x_istore_n (lv' := [(2, .int (i0 ^^^ i1)), (0, .int i0), (1, .int i1)]) hC dX9_turned_3 (by decide) rfl ?_
  refine x_iconst hC dX9_turned_4 ic_0 ?_
  refine x_istore_n (lv' := [(3, .int 0), (2, .int (i0 ^^^ i1)), (0, .int i0), (1, .int i1)]) hC dX9_turned_5 (by decide) rfl ?_
  refine x_subk (lv' := [(2, .int (i0 ^^^ i1)), (3, .int 0)]) [1, 0] rfl ?_
  refine hp (fun i2_6 i3_6 h_6 => SW C gM 6 [(2, .int i2_6), (3, .int i3_6)] [] h_6) (fun i2_6 i3_6 h_6 hp => ?_)
  refine x_iload_n hC dX9_turned_6 (lm 1 rfl) ?_
  refine x_bipush hC dX9_turned_7 bp_8 ?_
  refine x_icmp_ge (tgt := 54) hC dX9_turned_9 (by decide) (fun hc => ?_) (fun hc => ?_)
  · have hp := hp.1 hc
    refine x_iload_n hC dX9_turned_54 (lm 0 rfl) ?_
    exact x_iret hC hE dX9_turned_55 ⟨_, _, rfl, rfl, hp⟩
  · have hp := hp.2 hc
    refine x_iload_n hC dX9_turned_12 (lm 0 rfl) ?_
    refine x_sipush hC dX9_turned_13 sp_128 ?_
    refine x_icmp_lt (tgt := 23) hC dX9_turned_16 (by decide) (fun hc => ?_) (fun hc => ?_)
    · have hp := hp.1 hc
      refine x_iconst hC dX9_turned_23 ic_0 ?_
      refine x_istore (lv' := [(4, .int 0), (2, .int i2_6), (3, .int i3_6)]) hC dX9_turned_24 (by decide) rfl ?_
      exact x_subk [1, 2, 0] rfl (l_X9_turned_j26 hC hE  (fun _ _ _ hp => hp) hp)
    · have hp := hp.2 hc
      refine x_iconst hC dX9_turned_19 ic_1 ?_
      refine x_goto (tgt := 24) hC dX9_turned_20 (by decide) ?_
      refine x_istore (lv' := [(4, .int 1), (2, .int i2_6), (3, .int i3_6)]) hC dX9_turned_24 (by decide) rfl ?_
      exact x_subk [1, 2, 0] rfl (l_X9_turned_j26 hC hE  (fun _ _ _ hp => hp) hp)
theorem dX9_checkOf_0 : decode cX9_checkOf 0 = .ok (.iconst 0, 1) := by decide +kernel
theorem dX9_checkOf_1 : decode cX9_checkOf 1 = .ok (.iload_n 0, 1) := by decide +kernel
theorem dX9_checkOf_2 : decode cX9_checkOf 2 = .ok (.invokestatic 168, 3) := by decide +kernel
theorem dX9_checkOf_5 : decode cX9_checkOf 5 = .ok (.istore 4, 2) := by decide +kernel
theorem dX9_checkOf_7 : decode cX9_checkOf 7 = .ok (.iload 4, 2) := by decide +kernel
theorem dX9_checkOf_9 : decode cX9_checkOf 9 = .ok (.iload_n 1, 1) := by decide +kernel
theorem dX9_checkOf_10 : decode cX9_checkOf 10 = .ok (.invokestatic 168, 3) := by decide +kernel
theorem dX9_checkOf_13 : decode cX9_checkOf 13 = .ok (.istore 4, 2) := by decide +kernel
theorem dX9_checkOf_15 : decode cX9_checkOf 15 = .ok (.iload 4, 2) := by decide +kernel
theorem dX9_checkOf_17 : decode cX9_checkOf 17 = .ok (.iload_n 2, 1) := by decide +kernel
theorem dX9_checkOf_18 : decode cX9_checkOf 18 = .ok (.sipush 256, 3) := by decide +kernel
theorem dX9_checkOf_21 : decode cX9_checkOf 21 = .ok (.idiv, 1) := by decide +kernel
theorem dX9_checkOf_22 : decode cX9_checkOf 22 = .ok (.invokestatic 168, 3) := by decide +kernel
theorem dX9_checkOf_25 : decode cX9_checkOf 25 = .ok (.istore 4, 2) := by decide +kernel
theorem dX9_checkOf_27 : decode cX9_checkOf 27 = .ok (.iload 4, 2) := by decide +kernel
theorem dX9_checkOf_29 : decode cX9_checkOf 29 = .ok (.iload_n 2, 1) := by decide +kernel
theorem dX9_checkOf_30 : decode cX9_checkOf 30 = .ok (.sipush 256, 3) := by decide +kernel
theorem dX9_checkOf_33 : decode cX9_checkOf 33 = .ok (.irem, 1) := by decide +kernel
theorem dX9_checkOf_34 : decode cX9_checkOf 34 = .ok (.invokestatic 168, 3) := by decide +kernel
theorem dX9_checkOf_37 : decode cX9_checkOf 37 = .ok (.istore 4, 2) := by decide +kernel
theorem dX9_checkOf_39 : decode cX9_checkOf 39 = .ok (.iload 4, 2) := by decide +kernel
theorem dX9_checkOf_41 : decode cX9_checkOf 41 = .ok (.iload_n 3, 1) := by decide +kernel
theorem dX9_checkOf_42 : decode cX9_checkOf 42 = .ok (.invokestatic 168, 3) := by decide +kernel
theorem dX9_checkOf_45 : decode cX9_checkOf 45 = .ok (.ireturn, 1) := by decide +kernel
abbrev rm_X9_checkOf : Room := { frames := 1, cells := 0, slots := 0, locals := 24 }
def P_X9_checkOf (i0 : Int32) (i1 : Int32) (i2 : Int32) (i3 : Int32) (h : HP) (Q : Int32 → HP → Prop) : Prop := P_X9_turned 0 i0 h (fun (v_2 : Int32) (h_2 : HP) => P_X9_turned v_2 i1 h_2 (fun (v_10 : Int32) (h_10 : HP) => P_X9_turned v_10 (i2 / 256) h_10 (fun (v_22 : Int32) (h_22 : HP) => P_X9_turned v_22 (i2 - i2 / 256 * 256) h_22 (fun (v_34 : Int32) (h_34 : HP) => P_X9_turned v_34 i3 h_34 (fun (v_42 : Int32) (h_42 : HP) => Q v_42 h_42)))))
set_option maxHeartbeats 4000000 in
theorem t_X9_checkOf {i0 : Int32} {i1 : Int32} {i2 : Int32} {i3 : Int32} {h : HP} {Q : Int32 → HP → Prop}  (hp : P_X9_checkOf i0 i1 i2 i3 h Q) : MT yX9_checkOf cX9_checkOf 5 (some .int) rm_X9_checkOf [.int i0, .int i1, .int i2, .int i3] gM SH (emb h) (pI Q) := by
  refine MT.of (by decide +kernel) (Nat.le_of_ble_eq_true rfl) (fun C hC hE => ?_)
  show SW C gM 0 [(0, .int i0), (1, .int i1), (2, .int i2), (3, .int i3)] [] h
  unfold P_X9_checkOf at hp
  refine x_iconst hC dX9_checkOf_0 ic_0 ?_
  refine x_iload_n hC dX9_checkOf_1 (lm 0 rfl) ?_
  refine s_callSi (avs := [.int 0, .int i0]) (st := []) hC dX9_checkOf_2 ml_9_168 ms_X9_turned rfl (t_X9_turned  hp) (Nat.le_of_ble_eq_true rfl) ⟨rfl, rfl⟩ ⟨Nat.le_of_ble_eq_true rfl, Nat.le_of_ble_eq_true rfl⟩ (fun v_2 h_2 hp => ?_)
  refine x_istore (lv' := [(4, .int v_2), (0, .int i0), (1, .int i1), (2, .int i2), (3, .int i3)]) hC dX9_checkOf_5 (by decide) rfl ?_
  refine x_iload hC dX9_checkOf_7 (lm 0 rfl) ?_
  refine x_iload_n hC dX9_checkOf_9 (lm 2 rfl) ?_
  refine s_callSi (avs := [.int v_2, .int i1]) (st := []) hC dX9_checkOf_10 ml_9_168 ms_X9_turned rfl (t_X9_turned  hp) (Nat.le_of_ble_eq_true rfl) ⟨rfl, rfl⟩ ⟨Nat.le_of_ble_eq_true rfl, Nat.le_of_ble_eq_true rfl⟩ (fun v_10 h_10 hp => ?_)
  refine x_istore (lv' := [(4, .int v_10), (0, .int i0), (1, .int i1), (2, .int i2), (3, .int i3)]) hC dX9_checkOf_13 (by decide) rfl ?_
  refine x_iload hC dX9_checkOf_15 (lm 0 rfl) ?_
  refine x_iload_n hC dX9_checkOf_17 (lm 3 rfl) ?_
  refine x_sipush hC dX9_checkOf_18 sp_256 ?_
  refine x_idiv hC dX9_checkOf_21 (by decide) ?_
  refine s_callSi (avs := [.int v_10, .int (i2 / 256)]) (st := []) hC dX9_checkOf_22 ml_9_168 ms_X9_turned rfl (t_X9_turned  hp) (Nat.le_of_ble_eq_true rfl) ⟨rfl, rfl⟩ ⟨Nat.le_of_ble_eq_true rfl, Nat.le_of_ble_eq_true rfl⟩ (fun v_22 h_22 hp => ?_)
  refine x_istore (lv' := [(4, .int v_22), (0, .int i0), (1, .int i1), (2, .int i2), (3, .int i3)]) hC dX9_checkOf_25 (by decide) rfl ?_
  refine x_iload hC dX9_checkOf_27 (lm 0 rfl) ?_
  refine x_iload_n hC dX9_checkOf_29 (lm 3 rfl) ?_
  refine x_sipush hC dX9_checkOf_30 sp_256 ?_
  refine x_irem hC dX9_checkOf_33 (by decide) ?_
  refine s_callSi (avs := [.int v_22, .int (i2 - i2 / 256 * 256)]) (st := []) hC dX9_checkOf_34 ml_9_168 ms_X9_turned rfl (t_X9_turned  hp) (Nat.le_of_ble_eq_true rfl) ⟨rfl, rfl⟩ ⟨Nat.le_of_ble_eq_true rfl, Nat.le_of_ble_eq_true rfl⟩ (fun v_34 h_34 hp => ?_)
  refine x_istore (lv' := [(4, .int v_34), (0, .int i0), (1, .int i1), (2, .int i2), (3, .int i3)]) hC dX9_checkOf_37 (by decide) rfl ?_
  refine x_iload hC dX9_checkOf_39 (lm 0 rfl) ?_
  refine x_iload_n hC dX9_checkOf_41 (lm 4 rfl) ?_
  refine s_callSi (avs := [.int v_34, .int i3]) (st := []) hC dX9_checkOf_42 ml_9_168 ms_X9_turned rfl (t_X9_turned  hp) (Nat.le_of_ble_eq_true rfl) ⟨rfl, rfl⟩ ⟨Nat.le_of_ble_eq_true rfl, Nat.le_of_ble_eq_true rfl⟩ (fun v_42 h_42 hp => ?_)
  exact x_iret hC hE dX9_checkOf_45 ⟨_, _, rfl, rfl, hp⟩
theorem dX9_open_0 : decode cX9_open 0 = .ok (.aload_n 0, 1) := by decide +kernel
theorem dX9_open_1 : decode cX9_open 1 = .ok (.invokevirtual 160, 3) := by decide +kernel
theorem dX9_open_4 : decode cX9_open 4 = .ok (.ifCond .ne 6, 3) := by decide +kernel
theorem dX9_open_7 : decode cX9_open 7 = .ok (.bipush (-103), 2) := by decide +kernel
theorem dX9_open_9 : decode cX9_open 9 = .ok (.ireturn, 1) := by decide +kernel
theorem dX9_open_10 : decode cX9_open 10 = .ok (.aload_n 0, 1) := by decide +kernel
theorem dX9_open_11 : decode cX9_open 11 = .ok (.iload_n 1, 1) := by decide +kernel
theorem dX9_open_12 : decode cX9_open 12 = .ok (.invokevirtual 171, 3) := by decide +kernel
theorem dX9_open_15 : decode cX9_open 15 = .ok (.ifCond .ne 6, 3) := by decide +kernel
theorem dX9_open_18 : decode cX9_open 18 = .ok (.bipush (-101), 2) := by decide +kernel
theorem dX9_open_20 : decode cX9_open 20 = .ok (.ireturn, 1) := by decide +kernel
theorem dX9_open_21 : decode cX9_open 21 = .ok (.iload_n 2, 1) := by decide +kernel
theorem dX9_open_22 : decode cX9_open 22 = .ok (.iconst 0, 1) := by decide +kernel
theorem dX9_open_23 : decode cX9_open 23 = .ok (.iconst 2, 1) := by decide +kernel
theorem dX9_open_24 : decode cX9_open 24 = .ok (.invokestatic 123, 3) := by decide +kernel
theorem dX9_open_27 : decode cX9_open 27 = .ok (.ifCond .eq 34, 3) := by decide +kernel
theorem dX9_open_30 : decode cX9_open 30 = .ok (.iload_n 3, 1) := by decide +kernel
theorem dX9_open_31 : decode cX9_open 31 = .ok (.iconst 1, 1) := by decide +kernel
theorem dX9_open_32 : decode cX9_open 32 = .ok (.bipush 15, 2) := by decide +kernel
theorem dX9_open_34 : decode cX9_open 34 = .ok (.invokestatic 123, 3) := by decide +kernel
theorem dX9_open_37 : decode cX9_open 37 = .ok (.ifCond .eq 24, 3) := by decide +kernel
theorem dX9_open_40 : decode cX9_open 40 = .ok (.iload 4, 2) := by decide +kernel
theorem dX9_open_42 : decode cX9_open 42 = .ok (.iconst 1, 1) := by decide +kernel
theorem dX9_open_43 : decode cX9_open 43 = .ok (.iconst 4, 1) := by decide +kernel
theorem dX9_open_44 : decode cX9_open 44 = .ok (.invokestatic 123, 3) := by decide +kernel
theorem dX9_open_47 : decode cX9_open 47 = .ok (.ifCond .eq 14, 3) := by decide +kernel
theorem dX9_open_50 : decode cX9_open 50 = .ok (.iload 5, 2) := by decide +kernel
theorem dX9_open_52 : decode cX9_open 52 = .ok (.iconst 1, 1) := by decide +kernel
theorem dX9_open_53 : decode cX9_open 53 = .ok (.bipush 20, 2) := by decide +kernel
theorem dX9_open_55 : decode cX9_open 55 = .ok (.invokestatic 123, 3) := by decide +kernel
theorem dX9_open_58 : decode cX9_open 58 = .ok (.ifCond .ne 6, 3) := by decide +kernel
theorem dX9_open_61 : decode cX9_open 61 = .ok (.bipush (-102), 2) := by decide +kernel
theorem dX9_open_63 : decode cX9_open 63 = .ok (.ireturn, 1) := by decide +kernel
theorem dX9_open_64 : decode cX9_open 64 = .ok (.aload_n 0, 1) := by decide +kernel
theorem dX9_open_65 : decode cX9_open 65 = .ok (.getfield 16, 3) := by decide +kernel
theorem dX9_open_68 : decode cX9_open 68 = .ok (.iload_n 1, 1) := by decide +kernel
theorem dX9_open_69 : decode cX9_open 69 = .ok (.iaload, 1) := by decide +kernel
theorem dX9_open_70 : decode cX9_open 70 = .ok (.ifCond .ne 11, 3) := by decide +kernel
theorem dX9_open_73 : decode cX9_open 73 = .ok (.aload_n 0, 1) := by decide +kernel
theorem dX9_open_74 : decode cX9_open 74 = .ok (.iload_n 1, 1) := by decide +kernel
theorem dX9_open_75 : decode cX9_open 75 = .ok (.invokevirtual 175, 3) := by decide +kernel
theorem dX9_open_78 : decode cX9_open 78 = .ok (.ifCond .eq 6, 3) := by decide +kernel
theorem dX9_open_81 : decode cX9_open 81 = .ok (.bipush (-103), 2) := by decide +kernel
theorem dX9_open_83 : decode cX9_open 83 = .ok (.ireturn, 1) := by decide +kernel
theorem dX9_open_84 : decode cX9_open 84 = .ok (.aload_n 0, 1) := by decide +kernel
theorem dX9_open_85 : decode cX9_open 85 = .ok (.getfield 16, 3) := by decide +kernel
theorem dX9_open_88 : decode cX9_open 88 = .ok (.iload_n 1, 1) := by decide +kernel
theorem dX9_open_89 : decode cX9_open 89 = .ok (.iconst 1, 1) := by decide +kernel
theorem dX9_open_90 : decode cX9_open 90 = .ok (.iastore, 1) := by decide +kernel
theorem dX9_open_91 : decode cX9_open 91 = .ok (.aload_n 0, 1) := by decide +kernel
theorem dX9_open_92 : decode cX9_open 92 = .ok (.getfield 19, 3) := by decide +kernel
theorem dX9_open_95 : decode cX9_open 95 = .ok (.iload_n 1, 1) := by decide +kernel
theorem dX9_open_96 : decode cX9_open 96 = .ok (.iload_n 2, 1) := by decide +kernel
theorem dX9_open_97 : decode cX9_open 97 = .ok (.iastore, 1) := by decide +kernel
theorem dX9_open_98 : decode cX9_open 98 = .ok (.aload_n 0, 1) := by decide +kernel
theorem dX9_open_99 : decode cX9_open 99 = .ok (.getfield 22, 3) := by decide +kernel
theorem dX9_open_102 : decode cX9_open 102 = .ok (.iload_n 1, 1) := by decide +kernel
theorem dX9_open_103 : decode cX9_open 103 = .ok (.iload_n 3, 1) := by decide +kernel
theorem dX9_open_104 : decode cX9_open 104 = .ok (.iastore, 1) := by decide +kernel
theorem dX9_open_105 : decode cX9_open 105 = .ok (.aload_n 0, 1) := by decide +kernel
theorem dX9_open_106 : decode cX9_open 106 = .ok (.getfield 25, 3) := by decide +kernel
theorem dX9_open_109 : decode cX9_open 109 = .ok (.iload_n 1, 1) := by decide +kernel
theorem dX9_open_110 : decode cX9_open 110 = .ok (.iload 4, 2) := by decide +kernel
theorem dX9_open_112 : decode cX9_open 112 = .ok (.iastore, 1) := by decide +kernel
theorem dX9_open_113 : decode cX9_open 113 = .ok (.aload_n 0, 1) := by decide +kernel
theorem dX9_open_114 : decode cX9_open 114 = .ok (.getfield 28, 3) := by decide +kernel
theorem dX9_open_117 : decode cX9_open 117 = .ok (.iload_n 1, 1) := by decide +kernel
theorem dX9_open_118 : decode cX9_open 118 = .ok (.iload 5, 2) := by decide +kernel
theorem dX9_open_120 : decode cX9_open 120 = .ok (.iastore, 1) := by decide +kernel
theorem dX9_open_121 : decode cX9_open 121 = .ok (.aload_n 0, 1) := by decide +kernel
theorem dX9_open_122 : decode cX9_open 122 = .ok (.getfield 37, 3) := by decide +kernel
theorem dX9_open_125 : decode cX9_open 125 = .ok (.iload_n 1, 1) := by decide +kernel
theorem dX9_open_126 : decode cX9_open 126 = .ok (.iconst 0, 1) := by decide +kernel
theorem dX9_open_127 : decode cX9_open 127 = .ok (.bastore, 1) := by decide +kernel
theorem dX9_open_128 : decode cX9_open 128 = .ok (.aload_n 0, 1) := by decide +kernel
theorem dX9_open_129 : decode cX9_open 129 = .ok (.iconst 0, 1) := by decide +kernel
theorem dX9_open_130 : decode cX9_open 130 = .ok (.iload_n 1, 1) := by decide +kernel
theorem dX9_open_131 : decode cX9_open 131 = .ok (.iconst (-1), 1) := by decide +kernel
theorem dX9_open_132 : decode cX9_open 132 = .ok (.iconst (-1), 1) := by decide +kernel
theorem dX9_open_133 : decode cX9_open 133 = .ok (.iload_n 3, 1) := by decide +kernel
theorem dX9_open_134 : decode cX9_open 134 = .ok (.invokevirtual 178, 3) := by decide +kernel
theorem dX9_open_137 : decode cX9_open 137 = .ok (.istore 6, 2) := by decide +kernel
theorem dX9_open_139 : decode cX9_open 139 = .ok (.aload_n 0, 1) := by decide +kernel
theorem dX9_open_140 : decode cX9_open 140 = .ok (.getfield 107, 3) := by decide +kernel
theorem dX9_open_143 : decode cX9_open 143 = .ok (.iload 6, 2) := by decide +kernel
theorem dX9_open_145 : decode cX9_open 145 = .ok (.iconst 5, 1) := by decide +kernel
theorem dX9_open_146 : decode cX9_open 146 = .ok (.iadd, 1) := by decide +kernel
theorem dX9_open_147 : decode cX9_open 147 = .ok (.iload_n 2, 1) := by decide +kernel
theorem dX9_open_148 : decode cX9_open 148 = .ok (.iastore, 1) := by decide +kernel
theorem dX9_open_149 : decode cX9_open 149 = .ok (.aload_n 0, 1) := by decide +kernel
theorem dX9_open_150 : decode cX9_open 150 = .ok (.getfield 107, 3) := by decide +kernel
theorem dX9_open_153 : decode cX9_open 153 = .ok (.iload 6, 2) := by decide +kernel
theorem dX9_open_155 : decode cX9_open 155 = .ok (.bipush 6, 2) := by decide +kernel
theorem dX9_open_157 : decode cX9_open 157 = .ok (.iadd, 1) := by decide +kernel
theorem dX9_open_158 : decode cX9_open 158 = .ok (.iload 5, 2) := by decide +kernel
theorem dX9_open_160 : decode cX9_open 160 = .ok (.iastore, 1) := by decide +kernel
theorem dX9_open_161 : decode cX9_open 161 = .ok (.aload_n 0, 1) := by decide +kernel
theorem dX9_open_162 : decode cX9_open 162 = .ok (.getfield 154, 3) := by decide +kernel
theorem dX9_open_165 : decode cX9_open 165 = .ok (.ireturn, 1) := by decide +kernel
abbrev rm_X9_open : Room := { frames := 2, cells := 0, slots := 0, locals := 43 }
def P_X9_open (i1 : Int32) (i2 : Int32) (i3 : Int32) (i4 : Int32) (i5 : Int32) (h : HP) (Q : Int32 → HP → Prop) : Prop := P_X9_isAir h (fun (v_1 : Int32) (h_1 : HP) => ((¬ v_1 = 0) → (P_X9_isClass i1 h_1 (fun (v_12 : Int32) (h_12 : HP) => ((¬ v_12 = 0) → (P_X9_within i2 0 2 h_12 (fun (v_24 : Int32) (h_24 : HP) => ((v_24 = 0) → (Q (-102) h_24)) ∧ ((¬ v_24 = 0) → (P_X9_within i3 1 15 h_24 (fun (v_34 : Int32) (h_34 : HP) => ((v_34 = 0) → (Q (-102) h_34)) ∧ ((¬ v_34 = 0) → (P_X9_within i4 1 4 h_34 (fun (v_44 : Int32) (h_44 : HP) => ((v_44 = 0) → (Q (-102) h_44)) ∧ ((¬ v_44 = 0) → (P_X9_within i5 1 20 h_44 (fun (v_55 : Int32) (h_55 : HP) => ((¬ v_55 = 0) → ((vp_in i1 4) ∧ (((¬ (h_55.1 81 i1.toNatClampNeg) = 0) → (Q (-103) h_55)) ∧ (((h_55.1 81 i1.toNatClampNeg) = 0) → (P_X9_isUnderWay i1 h_55 (fun (v_75 : Int32) (h_75 : HP) => ((v_75 = 0) → ((vp_in i1 4) ∧ ((vp_in i1 4) ∧ ((vp_in i1 4) ∧ ((vp_in i1 4) ∧ ((vp_in i1 4) ∧ ((vp_in i1 4) ∧ (P_X9_send 0 i1 (-1) (-1) i3 (si (si (si (si (si (si h_75 81 i1.toNatClampNeg 1) 82 i1.toNatClampNeg i2) 83 i1.toNatClampNeg i3) 84 i1.toNatClampNeg i4) 85 i1.toNatClampNeg i5) 88 i1.toNatClampNeg 0) (fun (v_134 : Int32) (h_134 : HP) => (vp_in (v_134 + 5) 128) ∧ ((vp_in (v_134 + 6) 128) ∧ (Q ((si (si h_134 111 (v_134 + 5).toNatClampNeg i2) 111 (v_134 + 6).toNatClampNeg i5).1 78 39) (si (si h_134 111 (v_134 + 5).toNatClampNeg i2) 111 (v_134 + 6).toNatClampNeg i5)))))))))))) ∧ ((¬ v_75 = 0) → (Q (-103) h_75)))))))) ∧ ((v_55 = 0) → (Q (-102) h_55)))))))))))))) ∧ ((v_12 = 0) → (Q (-101) h_12))))) ∧ ((v_1 = 0) → (Q (-103) h_1)))
set_option maxHeartbeats 4000000 in
theorem t_X9_open {i1 : Int32} {i2 : Int32} {i3 : Int32} {i4 : Int32} {i5 : Int32} {h : HP} {Q : Int32 → HP → Prop}  (hp : P_X9_open i1 i2 i3 i4 i5 h Q) : MT yX9_open cX9_open 7 (some .int) rm_X9_open [.ref 78, .int i1, .int i2, .int i3, .int i4, .int i5] gM SH (emb h) (pI Q) := by
  refine MT.of (by decide +kernel) (Nat.le_of_ble_eq_true rfl) (fun C hC hE => ?_)
  show SW C gM 0 [(0, .ref 78), (1, .int i1), (2, .int i2), (3, .int i3), (4, .int i4), (5, .int i5)] [] h
  unfold P_X9_open at hp
  refine x_aload_n hC dX9_open_0 (lm 0 rfl) ?_
  refine s_callVi (avs := []) (st := []) hC dX9_open_1 ml_9_160 mi_X9_isAir ty_78 rfl (t_X9_isAir  hp) (Nat.le_of_ble_eq_true rfl) ⟨rfl, rfl⟩ ⟨Nat.le_of_ble_eq_true rfl, Nat.le_of_ble_eq_true rfl⟩ (fun v_1 h_1 hp => ?_)
  refine x_if_ne (tgt := 10) hC dX9_open_4 (by decide) (fun hc => ?_) (fun hc => ?_)
  · have hp := hp.1 hc
    refine x_aload_n hC dX9_open_10 (lm 0 rfl) ?_
    refine x_iload_n hC dX9_open_11 (lm 1 rfl) ?_
    refine s_callVi (avs := [.int i1]) (st := []) hC dX9_open_12 ml_9_171 mi_X9_isClass ty_78 rfl (t_X9_isClass  hp) (Nat.le_of_ble_eq_true rfl) ⟨rfl, rfl⟩ ⟨Nat.le_of_ble_eq_true rfl, Nat.le_of_ble_eq_true rfl⟩ (fun v_12 h_12 hp => ?_)
    refine x_if_ne (tgt := 21) hC dX9_open_15 (by decide) (fun hc => ?_) (fun hc => ?_)
    · have hp := hp.1 hc
      refine x_iload_n hC dX9_open_21 (lm 2 rfl) ?_
      refine x_iconst hC dX9_open_22 ic_0 ?_
      refine x_iconst hC dX9_open_23 ic_2 ?_
      refine s_callSi (avs := [.int i2, .int 0, .int 2]) (st := []) hC dX9_open_24 ml_9_123 ms_X9_within rfl (t_X9_within  hp) (Nat.le_of_ble_eq_true rfl) ⟨rfl, rfl⟩ ⟨Nat.le_of_ble_eq_true rfl, Nat.le_of_ble_eq_true rfl⟩ (fun v_24 h_24 hp => ?_)
      refine x_if_eq (tgt := 61) hC dX9_open_27 (by decide) (fun hc => ?_) (fun hc => ?_)
      · have hp := hp.1 hc
        refine x_bipush hC dX9_open_61 bp_m102 ?_
        exact x_iret hC hE dX9_open_63 ⟨_, _, rfl, rfl, hp⟩
      · have hp := hp.2 hc
        refine x_iload_n hC dX9_open_30 (lm 3 rfl) ?_
        refine x_iconst hC dX9_open_31 ic_1 ?_
        refine x_bipush hC dX9_open_32 bp_15 ?_
        refine s_callSi (avs := [.int i3, .int 1, .int 15]) (st := []) hC dX9_open_34 ml_9_123 ms_X9_within rfl (t_X9_within  hp) (Nat.le_of_ble_eq_true rfl) ⟨rfl, rfl⟩ ⟨Nat.le_of_ble_eq_true rfl, Nat.le_of_ble_eq_true rfl⟩ (fun v_34 h_34 hp => ?_)
        refine x_if_eq (tgt := 61) hC dX9_open_37 (by decide) (fun hc => ?_) (fun hc => ?_)
        · have hp := hp.1 hc
          refine x_bipush hC dX9_open_61 bp_m102 ?_
          exact x_iret hC hE dX9_open_63 ⟨_, _, rfl, rfl, hp⟩
        · have hp := hp.2 hc
          refine x_iload hC dX9_open_40 (lm 4 rfl) ?_
          refine x_iconst hC dX9_open_42 ic_1 ?_
          refine x_iconst hC dX9_open_43 ic_4 ?_
          refine s_callSi (avs := [.int i4, .int 1, .int 4]) (st := []) hC dX9_open_44 ml_9_123 ms_X9_within rfl (t_X9_within  hp) (Nat.le_of_ble_eq_true rfl) ⟨rfl, rfl⟩ ⟨Nat.le_of_ble_eq_true rfl, Nat.le_of_ble_eq_true rfl⟩ (fun v_44 h_44 hp => ?_)
          refine x_if_eq (tgt := 61) hC dX9_open_47 (by decide) (fun hc => ?_) (fun hc => ?_)
          · have hp := hp.1 hc
            refine x_bipush hC dX9_open_61 bp_m102 ?_
            exact x_iret hC hE dX9_open_63 ⟨_, _, rfl, rfl, hp⟩
          · have hp := hp.2 hc
            refine x_iload hC dX9_open_50 (lm 5 rfl) ?_
            refine x_iconst hC dX9_open_52 ic_1 ?_
            refine x_bipush hC dX9_open_53 bp_20 ?_
            refine s_callSi (avs := [.int i5, .int 1, .int 20]) (st := []) hC dX9_open_55 ml_9_123 ms_X9_within rfl (t_X9_within  hp) (Nat.le_of_ble_eq_true rfl) ⟨rfl, rfl⟩ ⟨Nat.le_of_ble_eq_true rfl, Nat.le_of_ble_eq_true rfl⟩ (fun v_55 h_55 hp => ?_)
            refine x_if_ne (tgt := 64) hC dX9_open_58 (by decide) (fun hc => ?_) (fun hc => ?_)
            · have hp := hp.1 hc
              refine x_aload_n hC dX9_open_64 (lm 0 rfl) ?_
              refine s_getR (r := 81) hC dX9_open_65 fk_9_16 ty_78 (fr_9_9 ty_78).1 ?_
              refine x_iload_n hC dX9_open_68 (lm 1 rfl) ?_
              obtain ⟨ho, hp⟩ := hp
              refine s_iald hC dX9_open_69 ((fr_9_9 ty_78).2) ho ?_
              refine x_if_ne (tgt := 81) hC dX9_open_70 (by decide) (fun hc => ?_) (fun hc => ?_)
              · have hp := hp.1 hc
                refine x_bipush hC dX9_open_81 bp_m103 ?_
                exact x_iret hC hE dX9_open_83 ⟨_, _, rfl, rfl, hp⟩
              · have hp := hp.2 hc
                refine x_aload_n hC dX9_open_73 (lm 0 rfl) ?_
                refine x_iload_n hC dX9_open_74 (lm 1 rfl) ?_
                refine s_callVi (avs := [.int i1]) (st := []) hC dX9_open_75 ml_9_175 mi_X9_isUnderWay ty_78 rfl (t_X9_isUnderWay  hp) (Nat.le_of_ble_eq_true rfl) ⟨rfl, rfl⟩ ⟨Nat.le_of_ble_eq_true rfl, Nat.le_of_ble_eq_true rfl⟩ (fun v_75 h_75 hp => ?_)
                refine x_if_eq (tgt := 84) hC dX9_open_78 (by decide) (fun hc => ?_) (fun hc => ?_)
                · have hp := hp.1 hc
                  refine x_aload_n hC dX9_open_84 (lm 0 rfl) ?_
                  refine s_getR (r := 81) hC dX9_open_85 fk_9_16 ty_78 (fr_9_9 ty_78).1 ?_
                  refine x_iload_n hC dX9_open_88 (lm 1 rfl) ?_
                  refine x_iconst hC dX9_open_89 ic_1 ?_
                  obtain ⟨ho, hp⟩ := hp
                  refine s_iast hC dX9_open_90 ((fr_9_9 ty_78).2) ho ?_
                  refine x_aload_n hC dX9_open_91 (lm 0 rfl) ?_
                  refine s_getR (r := 82) hC dX9_open_92 fk_9_19 ty_78 (fr_9_10 ty_78).1 ?_
                  refine x_iload_n hC dX9_open_95 (lm 1 rfl) ?_
                  refine x_iload_n hC dX9_open_96 (lm 2 rfl) ?_
                  obtain ⟨ho, hp⟩ := hp
                  refine s_iast hC dX9_open_97 ((fr_9_10 ty_78).2) ho ?_
                  refine x_aload_n hC dX9_open_98 (lm 0 rfl) ?_
                  refine s_getR (r := 83) hC dX9_open_99 fk_9_22 ty_78 (fr_9_11 ty_78).1 ?_
                  refine x_iload_n hC dX9_open_102 (lm 1 rfl) ?_
                  refine x_iload_n hC dX9_open_103 (lm 3 rfl) ?_
                  obtain ⟨ho, hp⟩ := hp
                  refine s_iast hC dX9_open_104 ((fr_9_11 ty_78).2) ho ?_
                  refine x_aload_n hC dX9_open_105 (lm 0 rfl) ?_
                  refine s_getR (r := 84) hC dX9_open_106 fk_9_25 ty_78 (fr_9_12 ty_78).1 ?_
                  refine x_iload_n hC dX9_open_109 (lm 1 rfl) ?_
                  refine x_iload hC dX9_open_110 (lm 4 rfl) ?_
                  obtain ⟨ho, hp⟩ := hp
                  refine s_iast hC dX9_open_112 ((fr_9_12 ty_78).2) ho ?_
                  refine x_aload_n hC dX9_open_113 (lm 0 rfl) ?_
                  refine s_getR (r := 85) hC dX9_open_114 fk_9_28 ty_78 (fr_9_13 ty_78).1 ?_
                  refine x_iload_n hC dX9_open_117 (lm 1 rfl) ?_
                  refine x_iload hC dX9_open_118 (lm 5 rfl) ?_
                  obtain ⟨ho, hp⟩ := hp
                  refine s_iast hC dX9_open_120 ((fr_9_13 ty_78).2) ho ?_
                  refine x_aload_n hC dX9_open_121 (lm 0 rfl) ?_
                  refine s_getR (r := 88) hC dX9_open_122 fk_9_37 ty_78 (fr_9_16 ty_78).1 ?_
                  refine x_iload_n hC dX9_open_125 (lm 1 rfl) ?_
                  refine x_iconst hC dX9_open_126 ic_0 ?_
                  obtain ⟨ho, hp⟩ := hp
                  refine s_zast (y := 0) hC dX9_open_127 ((fr_9_16 ty_78).2) ho (by decide) ?_
                  refine x_aload_n hC dX9_open_128 (lm 0 rfl) ?_
                  refine x_iconst hC dX9_open_129 ic_0 ?_
                  refine x_iload_n hC dX9_open_130 (lm 1 rfl) ?_
                  refine x_iconst hC dX9_open_131 ic_m1 ?_
                  refine x_iconst hC dX9_open_132 ic_m1 ?_
                  refine x_iload_n hC dX9_open_133 (lm 3 rfl) ?_
                  refine s_callVi (avs := [.int 0, .int i1, .int (-1), .int (-1), .int i3]) (st := []) hC dX9_open_134 ml_9_178 mi_X9_send ty_78 rfl (t_X9_send  hp) (Nat.le_of_ble_eq_true rfl) ⟨rfl, rfl⟩ ⟨Nat.le_of_ble_eq_true rfl, Nat.le_of_ble_eq_true rfl⟩ (fun v_134 h_134 hp => ?_)
                  refine x_istore (lv' := [(6, .int v_134), (0, .ref 78), (1, .int i1), (2, .int i2), (3, .int i3), (4, .int i4), (5, .int i5)]) hC dX9_open_137 (by decide) rfl ?_
                  refine x_aload_n hC dX9_open_139 (lm 1 rfl) ?_
                  refine s_getR (r := 111) hC dX9_open_140 fk_9_107 ty_78 (fr_9_40 ty_78).1 ?_
                  refine x_iload hC dX9_open_143 (lm 0 rfl) ?_
                  refine x_iconst hC dX9_open_145 ic_5 ?_
                  refine x_iadd hC dX9_open_146 ?_
                  refine x_iload_n hC dX9_open_147 (lm 3 rfl) ?_
                  obtain ⟨ho, hp⟩ := hp
                  refine s_iast hC dX9_open_148 ((fr_9_40 ty_78).2) ho ?_
                  refine x_aload_n hC dX9_open_149 (lm 1 rfl) ?_
                  refine s_getR (r := 111) hC dX9_open_150 fk_9_107 ty_78 (fr_9_40 ty_78).1 ?_
                  refine x_iload hC dX9_open_153 (lm 0 rfl) ?_
                  refine x_bipush hC dX9_open_155 bp_6 ?_
                  refine x_iadd hC dX9_open_157 ?_
                  refine x_iload hC dX9_open_158 (lm 6 rfl) ?_
                  obtain ⟨ho, hp⟩ := hp
                  refine s_iast hC dX9_open_160 ((fr_9_40 ty_78).2) ho ?_
                  refine x_aload_n hC dX9_open_161 (lm 1 rfl) ?_
                  refine s_getI hC dX9_open_162 fk_9_154 ty_78 ?_
                  exact x_iret hC hE dX9_open_165 ⟨_, _, rfl, rfl, hp⟩
                · have hp := hp.2 hc
                  refine x_bipush hC dX9_open_81 bp_m103 ?_
                  exact x_iret hC hE dX9_open_83 ⟨_, _, rfl, rfl, hp⟩
            · have hp := hp.2 hc
              refine x_bipush hC dX9_open_61 bp_m102 ?_
              exact x_iret hC hE dX9_open_63 ⟨_, _, rfl, rfl, hp⟩
    · have hp := hp.2 hc
      refine x_bipush hC dX9_open_18 bp_m101 ?_
      exact x_iret hC hE dX9_open_20 ⟨_, _, rfl, rfl, hp⟩
  · have hp := hp.2 hc
    refine x_bipush hC dX9_open_7 bp_m103 ?_
    exact x_iret hC hE dX9_open_9 ⟨_, _, rfl, rfl, hp⟩
