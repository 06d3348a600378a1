theorem dX8_digest_0 : decode cX8_digest 0 = .ok (.ldc2_w 274, 3) := by decide +kernel
theorem dX8_digest_3 : decode cX8_digest 3 = .ok (.lstore_n 1, 1) := by decide +kernel
theorem dX8_digest_4 : decode cX8_digest 4 = .ok (.aload_n 0, 1) := by decide +kernel
theorem dX8_digest_5 : decode cX8_digest 5 = .ok (.getfield 19, 3) := by decide +kernel
theorem dX8_digest_8 : decode cX8_digest 8 = .ok (.getfield 97, 3) := by decide +kernel
theorem dX8_digest_11 : decode cX8_digest 11 = .ok (.ifCond .eq 97, 3) := by decide +kernel
theorem dX8_digest_14 : decode cX8_digest 14 = .ok (.iconst 0, 1) := by decide +kernel
theorem dX8_digest_15 : decode cX8_digest 15 = .ok (.istore_n 3, 1) := by decide +kernel
theorem dX8_digest_16 : decode cX8_digest 16 = .ok (.iload_n 3, 1) := by decide +kernel
theorem dX8_digest_17 : decode cX8_digest 17 = .ok (.bipush 7, 2) := by decide +kernel
theorem dX8_digest_19 : decode cX8_digest 19 = .ok (.if_icmp .ge 22, 3) := by decide +kernel
theorem dX8_digest_22 : decode cX8_digest 22 = .ok (.lload_n 1, 1) := by decide +kernel
theorem dX8_digest_23 : decode cX8_digest 23 = .ok (.aload_n 0, 1) := by decide +kernel
theorem dX8_digest_24 : decode cX8_digest 24 = .ok (.getfield 19, 3) := by decide +kernel
theorem dX8_digest_27 : decode cX8_digest 27 = .ok (.iload_n 3, 1) := by decide +kernel
theorem dX8_digest_28 : decode cX8_digest 28 = .ok (.invokevirtual 218, 3) := by decide +kernel
theorem dX8_digest_31 : decode cX8_digest 31 = .ok (.invokestatic 276, 3) := by decide +kernel
theorem dX8_digest_34 : decode cX8_digest 34 = .ok (.lstore_n 1, 1) := by decide +kernel
theorem dX8_digest_35 : decode cX8_digest 35 = .ok (.iinc 3 1, 3) := by decide +kernel
theorem dX8_digest_38 : decode cX8_digest 38 = .ok (.goto (-22), 3) := by decide +kernel
theorem dX8_digest_41 : decode cX8_digest 41 = .ok (.iconst 0, 1) := by decide +kernel
theorem dX8_digest_42 : decode cX8_digest 42 = .ok (.istore_n 3, 1) := by decide +kernel
theorem dX8_digest_43 : decode cX8_digest 43 = .ok (.iload_n 3, 1) := by decide +kernel
theorem dX8_digest_44 : decode cX8_digest 44 = .ok (.iconst 4, 1) := by decide +kernel
theorem dX8_digest_45 : decode cX8_digest 45 = .ok (.if_icmp .ge 31, 3) := by decide +kernel
theorem dX8_digest_48 : decode cX8_digest 48 = .ok (.lload_n 1, 1) := by decide +kernel
theorem dX8_digest_49 : decode cX8_digest 49 = .ok (.aload_n 0, 1) := by decide +kernel
theorem dX8_digest_50 : decode cX8_digest 50 = .ok (.getfield 41, 3) := by decide +kernel
theorem dX8_digest_53 : decode cX8_digest 53 = .ok (.iload_n 3, 1) := by decide +kernel
theorem dX8_digest_54 : decode cX8_digest 54 = .ok (.aaload, 1) := by decide +kernel
theorem dX8_digest_55 : decode cX8_digest 55 = .ok (.invokestatic 280, 3) := by decide +kernel
theorem dX8_digest_58 : decode cX8_digest 58 = .ok (.lstore_n 1, 1) := by decide +kernel
theorem dX8_digest_59 : decode cX8_digest 59 = .ok (.lload_n 1, 1) := by decide +kernel
theorem dX8_digest_60 : decode cX8_digest 60 = .ok (.aload_n 0, 1) := by decide +kernel
theorem dX8_digest_61 : decode cX8_digest 61 = .ok (.getfield 47, 3) := by decide +kernel
theorem dX8_digest_64 : decode cX8_digest 64 = .ok (.iload_n 3, 1) := by decide +kernel
theorem dX8_digest_65 : decode cX8_digest 65 = .ok (.aaload, 1) := by decide +kernel
theorem dX8_digest_66 : decode cX8_digest 66 = .ok (.invokestatic 284, 3) := by decide +kernel
theorem dX8_digest_69 : decode cX8_digest 69 = .ok (.lstore_n 1, 1) := by decide +kernel
theorem dX8_digest_70 : decode cX8_digest 70 = .ok (.iinc 3 1, 3) := by decide +kernel
theorem dX8_digest_73 : decode cX8_digest 73 = .ok (.goto (-30), 3) := by decide +kernel
theorem dX8_digest_76 : decode cX8_digest 76 = .ok (.iconst 0, 1) := by decide +kernel
theorem dX8_digest_77 : decode cX8_digest 77 = .ok (.istore_n 3, 1) := by decide +kernel
theorem dX8_digest_78 : decode cX8_digest 78 = .ok (.iload_n 3, 1) := by decide +kernel
theorem dX8_digest_79 : decode cX8_digest 79 = .ok (.aload_n 0, 1) := by decide +kernel
theorem dX8_digest_80 : decode cX8_digest 80 = .ok (.getfield 35, 3) := by decide +kernel
theorem dX8_digest_83 : decode cX8_digest 83 = .ok (.getfield 130, 3) := by decide +kernel
theorem dX8_digest_86 : decode cX8_digest 86 = .ok (.if_icmp .ge 22, 3) := by decide +kernel
theorem dX8_digest_89 : decode cX8_digest 89 = .ok (.lload_n 1, 1) := by decide +kernel
theorem dX8_digest_90 : decode cX8_digest 90 = .ok (.aload_n 0, 1) := by decide +kernel
theorem dX8_digest_91 : decode cX8_digest 91 = .ok (.getfield 35, 3) := by decide +kernel
theorem dX8_digest_94 : decode cX8_digest 94 = .ok (.iload_n 3, 1) := by decide +kernel
theorem dX8_digest_95 : decode cX8_digest 95 = .ok (.invokevirtual 250, 3) := by decide +kernel
theorem dX8_digest_98 : decode cX8_digest 98 = .ok (.invokestatic 288, 3) := by decide +kernel
theorem dX8_digest_101 : decode cX8_digest 101 = .ok (.lstore_n 1, 1) := by decide +kernel
theorem dX8_digest_102 : decode cX8_digest 102 = .ok (.iinc 3 1, 3) := by decide +kernel
theorem dX8_digest_105 : decode cX8_digest 105 = .ok (.goto (-27), 3) := by decide +kernel
theorem dX8_digest_108 : decode cX8_digest 108 = .ok (.iconst 0, 1) := by decide +kernel
theorem dX8_digest_109 : decode cX8_digest 109 = .ok (.istore_n 3, 1) := by decide +kernel
theorem dX8_digest_110 : decode cX8_digest 110 = .ok (.iload_n 3, 1) := by decide +kernel
theorem dX8_digest_111 : decode cX8_digest 111 = .ok (.aload_n 0, 1) := by decide +kernel
theorem dX8_digest_112 : decode cX8_digest 112 = .ok (.getfield 10, 3) := by decide +kernel
theorem dX8_digest_115 : decode cX8_digest 115 = .ok (.getfield 61, 3) := by decide +kernel
theorem dX8_digest_118 : decode cX8_digest 118 = .ok (.if_icmp .ge 22, 3) := by decide +kernel
theorem dX8_digest_121 : decode cX8_digest 121 = .ok (.lload_n 1, 1) := by decide +kernel
theorem dX8_digest_122 : decode cX8_digest 122 = .ok (.aload_n 0, 1) := by decide +kernel
theorem dX8_digest_123 : decode cX8_digest 123 = .ok (.getfield 10, 3) := by decide +kernel
theorem dX8_digest_126 : decode cX8_digest 126 = .ok (.iload_n 3, 1) := by decide +kernel
theorem dX8_digest_127 : decode cX8_digest 127 = .ok (.invokevirtual 292, 3) := by decide +kernel
theorem dX8_digest_130 : decode cX8_digest 130 = .ok (.invokestatic 276, 3) := by decide +kernel
theorem dX8_digest_133 : decode cX8_digest 133 = .ok (.lstore_n 1, 1) := by decide +kernel
theorem dX8_digest_134 : decode cX8_digest 134 = .ok (.iinc 3 1, 3) := by decide +kernel
theorem dX8_digest_137 : decode cX8_digest 137 = .ok (.goto (-27), 3) := by decide +kernel
theorem dX8_digest_140 : decode cX8_digest 140 = .ok (.iconst 0, 1) := by decide +kernel
theorem dX8_digest_141 : decode cX8_digest 141 = .ok (.istore_n 3, 1) := by decide +kernel
theorem dX8_digest_142 : decode cX8_digest 142 = .ok (.iload_n 3, 1) := by decide +kernel
theorem dX8_digest_143 : decode cX8_digest 143 = .ok (.bipush 10, 2) := by decide +kernel
theorem dX8_digest_145 : decode cX8_digest 145 = .ok (.if_icmp .ge 19, 3) := by decide +kernel
theorem dX8_digest_148 : decode cX8_digest 148 = .ok (.lload_n 1, 1) := by decide +kernel
theorem dX8_digest_149 : decode cX8_digest 149 = .ok (.aload_n 0, 1) := by decide +kernel
theorem dX8_digest_150 : decode cX8_digest 150 = .ok (.iload_n 3, 1) := by decide +kernel
theorem dX8_digest_151 : decode cX8_digest 151 = .ok (.invokevirtual 293, 3) := by decide +kernel
theorem dX8_digest_154 : decode cX8_digest 154 = .ok (.invokestatic 276, 3) := by decide +kernel
theorem dX8_digest_157 : decode cX8_digest 157 = .ok (.lstore_n 1, 1) := by decide +kernel
theorem dX8_digest_158 : decode cX8_digest 158 = .ok (.iinc 3 1, 3) := by decide +kernel
theorem dX8_digest_161 : decode cX8_digest 161 = .ok (.goto (-19), 3) := by decide +kernel
theorem dX8_digest_164 : decode cX8_digest 164 = .ok (.lload_n 1, 1) := by decide +kernel
theorem dX8_digest_165 : decode cX8_digest 165 = .ok (.lreturn, 1) := by decide +kernel
abbrev rm_X8_digest : Room := { frames := 6, cells := 0, slots := 0, locals := 130 }
def P_X8_digest_j108 (_q0 : Nat) (l1 : Int64) (h : HP)  (Q : Int64 → HP → Prop) : Prop := Lp3 (fun X_110 (l1_110 : Int64) (i3_110 : Int32) (h_110 : HP) => (((h_110.1 1 1) ≤ i3_110) → (Lp3 (fun X_142 (l1_142 : Int64) (i3_142 : Int32) (h_142 : HP) => ((10 ≤ i3_142) → Q l1_142 h_142) ∧ ((¬ 10 ≤ i3_142) → (P_X8_count i3_142 h_142 (fun (v_151 : Int32) (h_151 : HP) => P_X8_mix l1_142 v_151 h_151 (fun (v_154 : Int64) (h_154 : HP) => X_142 v_154 (i3_142 + 1) h_154))))) l1_110 0 h_110)) ∧ ((¬ (h_110.1 1 1) ≤ i3_110) → (P_X5_at i3_110 h_110 (fun (v_127 : Int32) (h_127 : HP) => P_X8_mix l1_110 v_127 h_127 (fun (v_130 : Int64) (h_130 : HP) => X_110 v_130 (i3_110 + 1) h_130))))) l1 0 h
def P_X8_digest  (h : HP) (Q : Int64 → HP → Prop) : Prop := (((h.1 3 0) = 0) → (P_X8_digest_j108 0 (1543 : Int64) h Q)) ∧ ((¬ (h.1 3 0) = 0) → (Lp3 (fun X_16 (l1_16 : Int64) (i3_16 : Int32) (h_16 : HP) => ((7 ≤ i3_16) → (Lp3 (fun X_43 (l1_43 : Int64) (i3_43 : Int32) (h_43 : HP) => ((4 ≤ i3_43) → (Lp3 (fun X_78 (l1_78 : Int64) (i3_78 : Int32) (h_78 : HP) => (((h_78.1 5 2) ≤ i3_78) → P_X8_digest_j108 0 l1_78 h_78 Q) ∧ ((¬ (h_78.1 5 2) ≤ i3_78) → (P_X6_at i3_78 h_78 (fun (v_95 : Nat) (h_95 : HP) => (Ty gC v_95 2 0) ∧ (P_X8_digestOfLetter l1_78 v_95 h_95 (fun (v_98 : Int64) (h_98 : HP) => X_78 v_98 (i3_78 + 1) h_98)))))) l1_43 0 h_43)) ∧ ((¬ 4 ≤ i3_43) → ((vp_in i3_43 4) ∧ (P_X8_digestOfNearEnd l1_43 (34 + 11 * i3_43.toNatClampNeg) h_43 (fun (v_55 : Int64) (h_55 : HP) => (vp_in i3_43 4) ∧ (P_X8_digestOfFarEnd v_55 (41 + 11 * i3_43.toNatClampNeg) h_55 (fun (v_66 : Int64) (h_66 : HP) => X_43 v_66 (i3_43 + 1) h_66))))))) l1_16 0 h_16)) ∧ ((¬ 7 ≤ i3_16) → (P_X0_tell i3_16 h_16 (fun (v_28 : Int32) (h_28 : HP) => P_X8_mix l1_16 v_28 h_28 (fun (v_31 : Int64) (h_31 : HP) => X_16 v_31 (i3_16 + 1) h_31))))) (1543 : Int64) 0 h))
set_option maxHeartbeats 4000000 in
theorem l_X8_digest_j108 {l1 : Int64} {h : HP}  {Q : Int64 → HP → Prop} {C : Cx} (hC : xOk C cX8_digest yX8_digest.cls 4 rm_X8_digest (some .long)) (hE : xEnd C gC SH (pL Q))   (hp : P_X8_digest_j108 0 l1 h  Q) : SW C gC 108 [(0, .ref 0), (1, .long l1)] [] h := by
  unfold P_X8_digest_j108 at hp
  refine x_iconst hC dX8_digest_108 ic_0 ?_
  refine x_istore_n (lv' := [(3, .int 0), (0, .ref 0), (1, .long l1)]) hC dX8_digest_109 (by decide) rfl ?_
  refine x_subk (lv' := [(0, .ref 0), (1, .long l1), (3, .int 0)]) [1, 2, 0] rfl ?_
  refine hp (fun l1_110 i3_110 h_110 => SW C gC 110 [(0, .ref 0), (1, .long l1_110), (3, .int i3_110)] [] h_110) (fun l1_110 i3_110 h_110 hp => ?_)
  refine x_iload_n hC dX8_digest_110 (lm 2 rfl) ?_
  refine x_aload_n hC dX8_digest_111 (lm 0 rfl) ?_
  refine s_getR (r := 1) hC dX8_digest_112 fk_8_10 ty_0 (fr_8_0 ty_0).1 ?_
  refine s_getI hC dX8_digest_115 fk_8_61 ty_1 ?_
  refine x_icmp_ge (tgt := 140) hC dX8_digest_118 (by decide) (fun hc => ?_) (fun hc => ?_)
  · have hp := hp.1 hc
    refine x_iconst hC dX8_digest_140 ic_0 ?_
    refine x_istore_n (lv' := [(3, .int 0), (0, .ref 0), (1, .long l1_110)]) hC dX8_digest_141 (by decide) rfl ?_
    refine x_subk (lv' := [(0, .ref 0), (1, .long l1_110), (3, .int 0)]) [1, 2, 0] rfl ?_
    refine hp (fun l1_142 i3_142 h_142 => SW C gC 142 [(0, .ref 0), (1, .long l1_142), (3, .int i3_142)] [] h_142) (fun l1_142 i3_142 h_142 hp => ?_)
    refine x_iload_n hC dX8_digest_142 (lm 2 rfl) ?_
    refine x_bipush hC dX8_digest_143 bp_10 ?_
    refine x_icmp_ge (tgt := 164) hC dX8_digest_145 (by decide) (fun hc => ?_) (fun hc => ?_)
    · have hp := hp.1 hc
      refine x_lload_n hC dX8_digest_164 (lm 1 rfl) ?_
      exact x_lret hC hE dX8_digest_165 ⟨_, _, rfl, rfl, hp⟩
    · have hp := hp.2 hc
      refine x_lload_n hC dX8_digest_148 (lm 1 rfl) ?_
      refine x_aload_n hC dX8_digest_149 (lm 0 rfl) ?_
      refine x_iload_n hC dX8_digest_150 (lm 2 rfl) ?_
      refine s_callVi (avs := [.int i3_142]) (st := [.long l1_142]) hC dX8_digest_151 ml_8_293 mi_X8_count ty_0 rfl (t_X8_count  hp) (Nat.le_of_ble_eq_true rfl) ⟨rfl, rfl⟩ ⟨Nat.le_of_ble_eq_true rfl, Nat.le_of_ble_eq_true rfl⟩ (fun v_151 h_151 hp => ?_)
      refine s_callSl (avs := [.long l1_142, .int v_151]) (st := []) hC dX8_digest_154 ml_8_276 ms_X8_mix rfl (t_X8_mix  hp) (Nat.le_of_ble_eq_true rfl) ⟨rfl, rfl⟩ ⟨Nat.le_of_ble_eq_true rfl, Nat.le_of_ble_eq_true rfl⟩ (fun v_154 h_154 hp => ?_)
      refine x_lstore_n (lv' := [(1, .long v_154), (0, .ref 0), (3, .int i3_142)]) hC dX8_digest_157 (by decide) rfl ?_
      refine x_iinc (u := i3_142 + 1) (lv' := [(3, .int (i3_142 + 1)), (1, .long v_154), (0, .ref 0)]) hC dX8_digest_158 (lm 2 rfl) (congrArg _ ic_1) (by decide) rfl ?_
      refine x_goto (tgt := 142) hC dX8_digest_161 (by decide) ?_
      exact x_subk [2, 1, 0] rfl hp
  · have hp := hp.2 hc
    refine x_lload_n hC dX8_digest_121 (lm 1 rfl) ?_
    refine x_aload_n hC dX8_digest_122 (lm 0 rfl) ?_
    refine s_getR (r := 1) hC dX8_digest_123 fk_8_10 ty_0 (fr_8_0 ty_0).1 ?_
    refine x_iload_n hC dX8_digest_126 (lm 2 rfl) ?_
    refine s_callVi (avs := [.int i3_110]) (st := [.long l1_110]) hC dX8_digest_127 ml_8_292 mi_X5_at ty_1 rfl (t_X5_at  hp) (Nat.le_of_ble_eq_true rfl) ⟨rfl, rfl⟩ ⟨Nat.le_of_ble_eq_true rfl, Nat.le_of_ble_eq_true rfl⟩ (fun v_127 h_127 hp => ?_)
    refine s_callSl (avs := [.long l1_110, .int v_127]) (st := []) hC dX8_digest_130 ml_8_276 ms_X8_mix rfl (t_X8_mix  hp) (Nat.le_of_ble_eq_true rfl) ⟨rfl, rfl⟩ ⟨Nat.le_of_ble_eq_true rfl, Nat.le_of_ble_eq_true rfl⟩ (fun v_130 h_130 hp => ?_)
    refine x_lstore_n (lv' := [(1, .long v_130), (0, .ref 0), (3, .int i3_110)]) hC dX8_digest_133 (by decide) rfl ?_
    refine x_iinc (u := i3_110 + 1) (lv' := [(3, .int (i3_110 + 1)), (1, .long v_130), (0, .ref 0)]) hC dX8_digest_134 (lm 2 rfl) (congrArg _ ic_1) (by decide) rfl ?_
    refine x_goto (tgt := 110) hC dX8_digest_137 (by decide) ?_
    exact x_subk [2, 1, 0] rfl hp
set_option maxHeartbeats 4000000 in
theorem t_X8_digest  {h : HP} {Q : Int64 → HP → Prop}  (hp : P_X8_digest  h Q) : MT yX8_digest cX8_digest 4 (some .long) rm_X8_digest [.ref 0] gC SH (emb h) (pL Q) := by
  refine MT.of (by decide +kernel) (Nat.le_of_ble_eq_true rfl) (fun C hC hE => ?_)
  show SW C gC 0 [(0, .ref 0)] [] h
  unfold P_X8_digest at hp
  refine x_ldc2 hC dX8_digest_0 lc_8_274 ?_
  refine x_lstore_n (lv' := [(1, .long (1543 : Int64)), (0, .ref 0)]) hC dX8_digest_3 (by decide) rfl ?_
  refine x_aload_n hC dX8_digest_4 (lm 1 rfl) ?_
  refine s_getR (r := 3) hC dX8_digest_5 fk_8_19 ty_0 (fr_8_1 ty_0).1 ?_
  refine s_getZ hC dX8_digest_8 fk_8_97 ty_3 ?_
  refine x_if_eq (tgt := 108) hC dX8_digest_11 (by decide) (fun hc => ?_) (fun hc => ?_)
  · have hp := hp.1 hc
    exact x_subk [1, 0] rfl (l_X8_digest_j108 hC hE   hp)
  · have hp := hp.2 hc
    refine x_iconst hC dX8_digest_14 ic_0 ?_
    refine x_istore_n (lv' := [(3, .int 0), (1, .long (1543 : Int64)), (0, .ref 0)]) hC dX8_digest_15 (by decide) rfl ?_
    refine x_subk (lv' := [(0, .ref 0), (1, .long (1543 : Int64)), (3, .int 0)]) [2, 1, 0] rfl ?_
    refine hp (fun l1_16 i3_16 h_16 => SW C gC 16 [(0, .ref 0), (1, .long l1_16), (3, .int i3_16)] [] h_16) (fun l1_16 i3_16 h_16 hp => ?_)
    refine x_iload_n hC dX8_digest_16 (lm 2 rfl) ?_
    refine x_bipush hC dX8_digest_17 bp_7 ?_
    refine x_icmp_ge (tgt := 41) hC dX8_digest_19 (by decide) (fun hc => ?_) (fun hc => ?_)
    · have hp := hp.1 hc
      refine x_iconst hC dX8_digest_41 ic_0 ?_
      refine x_istore_n (lv' := [(3, .int 0), (0, .ref 0), (1, .long l1_16)]) hC dX8_digest_42 (by decide) rfl ?_
      refine x_subk (lv' := [(0, .ref 0), (1, .long l1_16), (3, .int 0)]) [1, 2, 0] rfl ?_
      refine hp (fun l1_43 i3_43 h_43 => SW C gC 43 [(0, .ref 0), (1, .long l1_43), (3, .int i3_43)] [] h_43) (fun l1_43 i3_43 h_43 hp => ?_)
      refine x_iload_n hC dX8_digest_43 (lm 2 rfl) ?_
      refine x_iconst hC dX8_digest_44 ic_4 ?_
      refine x_icmp_ge (tgt := 76) hC dX8_digest_45 (by decide) (fun hc => ?_) (fun hc => ?_)
      · have hp := hp.1 hc
        refine x_iconst hC dX8_digest_76 ic_0 ?_
        refine x_istore_n (lv' := [(3, .int 0), (0, .ref 0), (1, .long l1_43)]) hC dX8_digest_77 (by decide) rfl ?_
        refine x_subk (lv' := [(0, .ref 0), (1, .long l1_43), (3, .int 0)]) [1, 2, 0] rfl ?_
        refine hp (fun l1_78 i3_78 h_78 => SW C gC 78 [(0, .ref 0), (1, .long l1_78), (3, .int i3_78)] [] h_78) (fun l1_78 i3_78 h_78 hp => ?_)
        refine x_iload_n hC dX8_digest_78 (lm 2 rfl) ?_
        refine x_aload_n hC dX8_digest_79 (lm 0 rfl) ?_
        refine s_getR (r := 5) hC dX8_digest_80 fk_8_35 ty_0 (fr_8_3 ty_0).1 ?_
        refine s_getI hC dX8_digest_83 fk_8_130 ty_5 ?_
        refine x_icmp_ge (tgt := 108) hC dX8_digest_86 (by decide) (fun hc => ?_) (fun hc => ?_)
        · have hp := hp.1 hc
          exact x_subk [0, 1] rfl (l_X8_digest_j108 hC hE   hp)
        · have hp := hp.2 hc
          refine x_lload_n hC dX8_digest_89 (lm 1 rfl) ?_
          refine x_aload_n hC dX8_digest_90 (lm 0 rfl) ?_
          refine s_getR (r := 5) hC dX8_digest_91 fk_8_35 ty_0 (fr_8_3 ty_0).1 ?_
          refine x_iload_n hC dX8_digest_94 (lm 2 rfl) ?_
          refine s_callVr (avs := [.int i3_78]) (st := [.long l1_78]) hC dX8_digest_95 ml_8_250 mi_X6_at ty_5 rfl (t_X6_at  hp) (Nat.le_of_ble_eq_true rfl) ⟨rfl, rfl⟩ ⟨Nat.le_of_ble_eq_true rfl, Nat.le_of_ble_eq_true rfl⟩ (fun v_95 h_95 hp => ?_)
          obtain ⟨ht_95, hp⟩ := hp
          refine s_callSl (avs := [.long l1_78, .ref v_95]) (st := []) hC dX8_digest_98 ml_8_288 ms_X8_digestOfLetter rfl (t_X8_digestOfLetter ht_95 hp) (Nat.le_of_ble_eq_true rfl) ⟨rfl, rfl⟩ ⟨Nat.le_of_ble_eq_true rfl, Nat.le_of_ble_eq_true rfl⟩ (fun v_98 h_98 hp => ?_)
          refine x_lstore_n (lv' := [(1, .long v_98), (0, .ref 0), (3, .int i3_78)]) hC dX8_digest_101 (by decide) rfl ?_
          refine x_iinc (u := i3_78 + 1) (lv' := [(3, .int (i3_78 + 1)), (1, .long v_98), (0, .ref 0)]) hC dX8_digest_102 (lm 2 rfl) (congrArg _ ic_1) (by decide) rfl ?_
          refine x_goto (tgt := 78) hC dX8_digest_105 (by decide) ?_
          exact x_subk [2, 1, 0] rfl hp
      · have hp := hp.2 hc
        refine x_lload_n hC dX8_digest_48 (lm 1 rfl) ?_
        refine x_aload_n hC dX8_digest_49 (lm 0 rfl) ?_
        refine s_getR (r := 32) hC dX8_digest_50 fk_8_41 ty_0 (fr_8_4 ty_0).1 ?_
        refine x_iload_n hC dX8_digest_53 (lm 2 rfl) ?_
        obtain ⟨ho_54, hp⟩ := hp
        refine s_aald (r := 34 + 11 * i3_43.toNatClampNeg) (ci := 3) hC dX8_digest_54 (by decide) (by decide) ((fr_8_4 ty_0).2) ho_54 (el_32 ho_54).1 ?_
        refine s_callSl (avs := [.long l1_43, .ref (34 + 11 * i3_43.toNatClampNeg)]) (st := []) hC dX8_digest_55 ml_8_280 ms_X8_digestOfNearEnd rfl (t_X8_digestOfNearEnd ((el_32 ho_54).2) hp) (Nat.le_of_ble_eq_true rfl) ⟨rfl, rfl⟩ ⟨Nat.le_of_ble_eq_true rfl, Nat.le_of_ble_eq_true rfl⟩ (fun v_55 h_55 hp => ?_)
        refine x_lstore_n (lv' := [(1, .long v_55), (0, .ref 0), (3, .int i3_43)]) hC dX8_digest_58 (by decide) rfl ?_
        refine x_lload_n hC dX8_digest_59 (lm 0 rfl) ?_
        refine x_aload_n hC dX8_digest_60 (lm 1 rfl) ?_
        refine s_getR (r := 33) hC dX8_digest_61 fk_8_47 ty_0 (fr_8_5 ty_0).1 ?_
        refine x_iload_n hC dX8_digest_64 (lm 2 rfl) ?_
        obtain ⟨ho_65, hp⟩ := hp
        refine s_aald (r := 41 + 11 * i3_43.toNatClampNeg) (ci := 1) hC dX8_digest_65 (by decide) (by decide) ((fr_8_5 ty_0).2) ho_65 (el_33 ho_65).1 ?_
        refine s_callSl (avs := [.long v_55, .ref (41 + 11 * i3_43.toNatClampNeg)]) (st := []) hC dX8_digest_66 ml_8_284 ms_X8_digestOfFarEnd rfl (t_X8_digestOfFarEnd ((el_33 ho_65).2) hp) (Nat.le_of_ble_eq_true rfl) ⟨rfl, rfl⟩ ⟨Nat.le_of_ble_eq_true rfl, Nat.le_of_ble_eq_true rfl⟩ (fun v_66 h_66 hp => ?_)
        refine x_lstore_n (lv' := [(1, .long v_66), (0, .ref 0), (3, .int i3_43)]) hC dX8_digest_69 (by decide) rfl ?_
        refine x_iinc (u := i3_43 + 1) (lv' := [(3, .int (i3_43 + 1)), (1, .long v_66), (0, .ref 0)]) hC dX8_digest_70 (lm 2 rfl) (congrArg _ ic_1) (by decide) rfl ?_
        refine x_goto (tgt := 43) hC dX8_digest_73 (by decide) ?_
        exact x_subk [2, 1, 0] rfl hp
    · have hp := hp.2 hc
      refine x_lload_n hC dX8_digest_22 (lm 1 rfl) ?_
      refine x_aload_n hC dX8_digest_23 (lm 0 rfl) ?_
      refine s_getR (r := 3) hC dX8_digest_24 fk_8_19 ty_0 (fr_8_1 ty_0).1 ?_
      refine x_iload_n hC dX8_digest_27 (lm 2 rfl) ?_
      refine s_callVi (avs := [.int i3_16]) (st := [.long l1_16]) hC dX8_digest_28 ml_8_218 mi_X0_tell ty_3 rfl (t_X0_tell  hp) (Nat.le_of_ble_eq_true rfl) ⟨rfl, rfl⟩ ⟨Nat.le_of_ble_eq_true rfl, Nat.le_of_ble_eq_true rfl⟩ (fun v_28 h_28 hp => ?_)
      refine s_callSl (avs := [.long l1_16, .int v_28]) (st := []) hC dX8_digest_31 ml_8_276 ms_X8_mix rfl (t_X8_mix  hp) (Nat.le_of_ble_eq_true rfl) ⟨rfl, rfl⟩ ⟨Nat.le_of_ble_eq_true rfl, Nat.le_of_ble_eq_true rfl⟩ (fun v_31 h_31 hp => ?_)
      refine x_lstore_n (lv' := [(1, .long v_31), (0, .ref 0), (3, .int i3_16)]) hC dX8_digest_34 (by decide) rfl ?_
      refine x_iinc (u := i3_16 + 1) (lv' := [(3, .int (i3_16 + 1)), (1, .long v_31), (0, .ref 0)]) hC dX8_digest_35 (lm 2 rfl) (congrArg _ ic_1) (by decide) rfl ?_
      refine x_goto (tgt := 16) hC dX8_digest_38 (by decide) ?_
      exact x_subk [2, 1, 0] rfl hp
