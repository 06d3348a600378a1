theorem dX8_deliver_0 : decode cX8_deliver 0 = .ok (.aload_n 0, 1) := by decide +kernel
theorem dX8_deliver_1 : decode cX8_deliver 1 = .ok (.getfield 35, 3) := by decide +kernel
theorem dX8_deliver_4 : decode cX8_deliver 4 = .ok (.iload_n 1, 1) := by decide +kernel
theorem dX8_deliver_5 : decode cX8_deliver 5 = .ok (.invokevirtual 188, 3) := by decide +kernel
theorem dX8_deliver_8 : decode cX8_deliver 8 = .ok (.ifCond .ne 6, 3) := by decide +kernel
theorem dX8_deliver_11 : decode cX8_deliver 11 = .ok (.bipush (-101), 2) := by decide +kernel
theorem dX8_deliver_13 : decode cX8_deliver 13 = .ok (.ireturn, 1) := by decide +kernel
theorem dX8_deliver_14 : decode cX8_deliver 14 = .ok (.iload_n 2, 1) := by decide +kernel
theorem dX8_deliver_15 : decode cX8_deliver 15 = .ok (.iconst 0, 1) := by decide +kernel
theorem dX8_deliver_16 : decode cX8_deliver 16 = .ok (.sipush 255, 3) := by decide +kernel
theorem dX8_deliver_19 : decode cX8_deliver 19 = .ok (.invokestatic 53, 3) := by decide +kernel
theorem dX8_deliver_22 : decode cX8_deliver 22 = .ok (.ifCond .ne 6, 3) := by decide +kernel
theorem dX8_deliver_25 : decode cX8_deliver 25 = .ok (.bipush (-102), 2) := by decide +kernel
theorem dX8_deliver_27 : decode cX8_deliver 27 = .ok (.ireturn, 1) := by decide +kernel
theorem dX8_deliver_28 : decode cX8_deliver 28 = .ok (.aload_n 0, 1) := by decide +kernel
theorem dX8_deliver_29 : decode cX8_deliver 29 = .ok (.getfield 35, 3) := by decide +kernel
theorem dX8_deliver_32 : decode cX8_deliver 32 = .ok (.iload_n 1, 1) := by decide +kernel
theorem dX8_deliver_33 : decode cX8_deliver 33 = .ok (.invokevirtual 191, 3) := by decide +kernel
theorem dX8_deliver_36 : decode cX8_deliver 36 = .ok (.astore_n 3, 1) := by decide +kernel
theorem dX8_deliver_37 : decode cX8_deliver 37 = .ok (.aload_n 3, 1) := by decide +kernel
theorem dX8_deliver_38 : decode cX8_deliver 38 = .ok (.invokevirtual 195, 3) := by decide +kernel
theorem dX8_deliver_41 : decode cX8_deliver 41 = .ok (.ifCond .eq 17, 3) := by decide +kernel
theorem dX8_deliver_44 : decode cX8_deliver 44 = .ok (.aload_n 0, 1) := by decide +kernel
theorem dX8_deliver_45 : decode cX8_deliver 45 = .ok (.getfield 19, 3) := by decide +kernel
theorem dX8_deliver_48 : decode cX8_deliver 48 = .ok (.invokevirtual 147, 3) := by decide +kernel
theorem dX8_deliver_51 : decode cX8_deliver 51 = .ok (.ifCond .ne 7, 3) := by decide +kernel
theorem dX8_deliver_54 : decode cX8_deliver 54 = .ok (.iconst 1, 1) := by decide +kernel
theorem dX8_deliver_55 : decode cX8_deliver 55 = .ok (.goto 4, 3) := by decide +kernel
theorem dX8_deliver_58 : decode cX8_deliver 58 = .ok (.iconst 0, 1) := by decide +kernel
theorem dX8_deliver_59 : decode cX8_deliver 59 = .ok (.istore 4, 2) := by decide +kernel
theorem dX8_deliver_61 : decode cX8_deliver 61 = .ok (.aload_n 3, 1) := by decide +kernel
theorem dX8_deliver_62 : decode cX8_deliver 62 = .ok (.getfield 198, 3) := by decide +kernel
theorem dX8_deliver_65 : decode cX8_deliver 65 = .ok (.iconst 2, 1) := by decide +kernel
theorem dX8_deliver_66 : decode cX8_deliver 66 = .ok (.if_icmp .eq 11, 3) := by decide +kernel
theorem dX8_deliver_69 : decode cX8_deliver 69 = .ok (.iload_n 2, 1) := by decide +kernel
theorem dX8_deliver_70 : decode cX8_deliver 70 = .ok (.ifCond .eq 7, 3) := by decide +kernel
theorem dX8_deliver_73 : decode cX8_deliver 73 = .ok (.iconst 1, 1) := by decide +kernel
theorem dX8_deliver_74 : decode cX8_deliver 74 = .ok (.goto 4, 3) := by decide +kernel
theorem dX8_deliver_77 : decode cX8_deliver 77 = .ok (.iconst 0, 1) := by decide +kernel
theorem dX8_deliver_78 : decode cX8_deliver 78 = .ok (.istore 5, 2) := by decide +kernel
theorem dX8_deliver_80 : decode cX8_deliver 80 = .ok (.iload 4, 2) := by decide +kernel
theorem dX8_deliver_82 : decode cX8_deliver 82 = .ok (.ifCond .ne 8, 3) := by decide +kernel
theorem dX8_deliver_85 : decode cX8_deliver 85 = .ok (.iload 5, 2) := by decide +kernel
theorem dX8_deliver_87 : decode cX8_deliver 87 = .ok (.ifCond .eq 18, 3) := by decide +kernel
theorem dX8_deliver_90 : decode cX8_deliver 90 = .ok (.aload_n 0, 1) := by decide +kernel
theorem dX8_deliver_91 : decode cX8_deliver 91 = .ok (.getfield 26, 3) := by decide +kernel
theorem dX8_deliver_94 : decode cX8_deliver 94 = .ok (.dup, 1) := by decide +kernel
theorem dX8_deliver_95 : decode cX8_deliver 95 = .ok (.getfield 201, 3) := by decide +kernel
theorem dX8_deliver_98 : decode cX8_deliver 98 = .ok (.iconst 1, 1) := by decide +kernel
theorem dX8_deliver_99 : decode cX8_deliver 99 = .ok (.iadd, 1) := by decide +kernel
theorem dX8_deliver_100 : decode cX8_deliver 100 = .ok (.putfield 201, 3) := by decide +kernel
theorem dX8_deliver_103 : decode cX8_deliver 103 = .ok (.iconst (-1), 1) := by decide +kernel
theorem dX8_deliver_104 : decode cX8_deliver 104 = .ok (.ireturn, 1) := by decide +kernel
theorem dX8_deliver_105 : decode cX8_deliver 105 = .ok (.aload_n 3, 1) := by decide +kernel
theorem dX8_deliver_106 : decode cX8_deliver 106 = .ok (.getfield 198, 3) := by decide +kernel
theorem dX8_deliver_109 : decode cX8_deliver 109 = .ok (.iconst 2, 1) := by decide +kernel
theorem dX8_deliver_110 : decode cX8_deliver 110 = .ok (.if_icmp .ne 10, 3) := by decide +kernel
theorem dX8_deliver_113 : decode cX8_deliver 113 = .ok (.aload_n 0, 1) := by decide +kernel
theorem dX8_deliver_114 : decode cX8_deliver 114 = .ok (.aload_n 3, 1) := by decide +kernel
theorem dX8_deliver_115 : decode cX8_deliver 115 = .ok (.iload_n 2, 1) := by decide +kernel
theorem dX8_deliver_116 : decode cX8_deliver 116 = .ok (.invokevirtual 204, 3) := by decide +kernel
theorem dX8_deliver_119 : decode cX8_deliver 119 = .ok (.ireturn, 1) := by decide +kernel
theorem dX8_deliver_120 : decode cX8_deliver 120 = .ok (.aload_n 0, 1) := by decide +kernel
theorem dX8_deliver_121 : decode cX8_deliver 121 = .ok (.aload_n 3, 1) := by decide +kernel
theorem dX8_deliver_122 : decode cX8_deliver 122 = .ok (.invokevirtual 208, 3) := by decide +kernel
theorem dX8_deliver_125 : decode cX8_deliver 125 = .ok (.iconst 1, 1) := by decide +kernel
theorem dX8_deliver_126 : decode cX8_deliver 126 = .ok (.ireturn, 1) := by decide +kernel
abbrev rm_X8_deliver : Room := { frames := 6, cells := 0, slots := 0, locals := 135 }
def P_X8_deliver_j90 (_q0 : Nat) (h : HP)  (Q : Int32 → HP → Prop) : Prop := Q (-1) (si h 4 1 ((h.1 4 1) + 1))
def P_X8_deliver_j80 (_q0 : Nat) (i2 : Int32) (q3 : Nat) (i4 : Int32) (i5 : Int32) (h : HP)  (Q : Int32 → HP → Prop) : Prop := ((¬ i4 = 0) → P_X8_deliver_j90 0 h Q) ∧ ((i4 = 0) → (((i5 = 0) → (((¬ (h.1 q3 1) = 2) → (P_X8_arrives q3 h (fun (h_122 : HP) => Q 1 h_122))) ∧ (((h.1 q3 1) = 2) → (P_X8_bundleArrives q3 i2 h (fun (v_116 : Int32) (h_116 : HP) => Q v_116 h_116))))) ∧ ((¬ i5 = 0) → P_X8_deliver_j90 0 h Q)))
def P_X8_deliver_j77 (_q0 : Nat) (i2 : Int32) (q3 : Nat) (i4 : Int32) (h : HP)  (Q : Int32 → HP → Prop) : Prop := P_X8_deliver_j80 0 i2 q3 i4 0 h Q
def P_X8_deliver_j61 (_q0 : Nat) (i2 : Int32) (q3 : Nat) (i4 : Int32) (h : HP)  (Q : Int32 → HP → Prop) : Prop := (((h.1 q3 1) = 2) → P_X8_deliver_j77 0 i2 q3 i4 h Q) ∧ ((¬ (h.1 q3 1) = 2) → (((i2 = 0) → P_X8_deliver_j77 0 i2 q3 i4 h Q) ∧ ((¬ i2 = 0) → P_X8_deliver_j80 0 i2 q3 i4 1 h Q)))
def P_X8_deliver_j58 (_q0 : Nat) (i2 : Int32) (q3 : Nat) (h : HP)  (Q : Int32 → HP → Prop) : Prop := P_X8_deliver_j61 0 i2 q3 0 h Q
def P_X8_deliver (i1 : Int32) (i2 : Int32) (h : HP) (Q : Int32 → HP → Prop) : Prop := P_X6_has i1 h (fun (v_5 : Int32) (h_5 : HP) => ((¬ v_5 = 0) → (P_X8_within i2 0 255 h_5 (fun (v_19 : Int32) (h_19 : HP) => ((¬ v_19 = 0) → (P_X6_take i1 h_19 (fun (v_33 : Nat) (h_33 : HP) => (Ty gC v_33 2 0) ∧ (P_X2_goesToFarEnd v_33 h_33 (fun (v_38 : Int32) (h_38 : HP) => ((v_38 = 0) → P_X8_deliver_j58 0 i2 v_33 h_38 Q) ∧ ((¬ v_38 = 0) → (P_X0_isAwake h_38 (fun (v_48 : Int32) (h_48 : HP) => ((¬ v_48 = 0) → P_X8_deliver_j58 0 i2 v_33 h_48 Q) ∧ ((v_48 = 0) → P_X8_deliver_j61 0 i2 v_33 1 h_48 Q))))))))) ∧ ((v_19 = 0) → (Q (-102) h_19))))) ∧ ((v_5 = 0) → (Q (-101) h_5)))
set_option maxHeartbeats 4000000 in
theorem l_X8_deliver_j90  {h : HP}  {Q : Int32 → HP → Prop} {C : Cx} (hC : xOk C cX8_deliver yX8_deliver.cls 6 rm_X8_deliver (some .int)) (hE : xEnd C gC SH (pI Q))   (hp : P_X8_deliver_j90 0 h  Q) : SW C gC 90 [(0, .ref 0)] [] h := by
  unfold P_X8_deliver_j90 at hp
  refine x_aload_n hC dX8_deliver_90 (lm 0 rfl) ?_
  refine s_getR (r := 4) hC dX8_deliver_91 fk_8_26 ty_0 (fr_8_2 ty_0).1 ?_
  refine x_dup hC dX8_deliver_94 rfl ?_
  refine s_getI hC dX8_deliver_95 fk_8_201 ty_4 ?_
  refine x_iconst hC dX8_deliver_98 ic_1 ?_
  refine x_iadd hC dX8_deliver_99 ?_
  refine s_putI hC dX8_deliver_100 fk_8_201 rfl rfl ty_4 ?_
  refine x_iconst hC dX8_deliver_103 ic_m1 ?_
  exact x_iret hC hE dX8_deliver_104 ⟨_, _, rfl, rfl, hp⟩
set_option maxHeartbeats 4000000 in
theorem l_X8_deliver_j80 {i2 : Int32} {q3 : Nat} {i4 : Int32} {i5 : Int32} {h : HP}  {Q : Int32 → HP → Prop} {C : Cx} (hC : xOk C cX8_deliver yX8_deliver.cls 6 rm_X8_deliver (some .int)) (hE : xEnd C gC SH (pI Q)) (hq3 : Ty gC q3 2 0)  (hp : P_X8_deliver_j80 0 i2 q3 i4 i5 h  Q) : SW C gC 80 [(0, .ref 0), (2, .int i2), (3, .ref q3), (4, .int i4), (5, .int i5)] [] h := by
  unfold P_X8_deliver_j80 at hp
  refine x_iload hC dX8_deliver_80 (lm 3 rfl) ?_
  refine x_if_ne (tgt := 90) hC dX8_deliver_82 (by decide) (fun hc => ?_) (fun hc => ?_)
  · have hp := hp.1 hc
    exact x_subk [0] rfl (l_X8_deliver_j90 hC hE   hp)
  · have hp := hp.2 hc
    refine x_iload hC dX8_deliver_85 (lm 4 rfl) ?_
    refine x_if_eq (tgt := 105) hC dX8_deliver_87 (by decide) (fun hc => ?_) (fun hc => ?_)
    · have hp := hp.1 hc
      refine x_aload_n hC dX8_deliver_105 (lm 2 rfl) ?_
      refine s_getI hC dX8_deliver_106 fk_8_198 hq3 ?_
      refine x_iconst hC dX8_deliver_109 ic_2 ?_
      refine x_icmp_ne (tgt := 120) hC dX8_deliver_110 (by decide) (fun hc => ?_) (fun hc => ?_)
      · have hp := hp.1 hc
        refine x_aload_n hC dX8_deliver_120 (lm 0 rfl) ?_
        refine x_aload_n hC dX8_deliver_121 (lm 2 rfl) ?_
        refine s_callVv (avs := [.ref q3]) (st := []) hC dX8_deliver_122 ml_8_208 mi_X8_arrives ty_0 rfl (t_X8_arrives hq3 hp) (Nat.le_of_ble_eq_true rfl) ⟨rfl, rfl⟩ ⟨Nat.le_of_ble_eq_true rfl, Nat.le_of_ble_eq_true rfl⟩ (fun h_122 hp => ?_)
        refine x_iconst hC dX8_deliver_125 ic_1 ?_
        exact x_iret hC hE dX8_deliver_126 ⟨_, _, rfl, rfl, hp⟩
      · have hp := hp.2 hc
        refine x_aload_n hC dX8_deliver_113 (lm 0 rfl) ?_
        refine x_aload_n hC dX8_deliver_114 (lm 2 rfl) ?_
        refine x_iload_n hC dX8_deliver_115 (lm 1 rfl) ?_
        refine s_callVi (avs := [.ref q3, .int i2]) (st := []) hC dX8_deliver_116 ml_8_204 mi_X8_bundleArrives ty_0 rfl (t_X8_bundleArrives hq3 hp) (Nat.le_of_ble_eq_true rfl) ⟨rfl, rfl⟩ ⟨Nat.le_of_ble_eq_true rfl, Nat.le_of_ble_eq_true rfl⟩ (fun v_116 h_116 hp => ?_)
        exact x_iret hC hE dX8_deliver_119 ⟨_, _, rfl, rfl, hp⟩
    · have hp := hp.2 hc
      exact x_subk [0] rfl (l_X8_deliver_j90 hC hE   hp)
set_option maxHeartbeats 4000000 in
theorem l_X8_deliver_j77 {i2 : Int32} {q3 : Nat} {i4 : Int32} {h : HP}  {Q : Int32 → HP → Prop} {C : Cx} (hC : xOk C cX8_deliver yX8_deliver.cls 6 rm_X8_deliver (some .int)) (hE : xEnd C gC SH (pI Q)) (hq3 : Ty gC q3 2 0)  (hp : P_X8_deliver_j77 0 i2 q3 i4 h  Q) : SW C gC 77 [(0, .ref 0), (2, .int i2), (3, .ref q3), (4, .int i4)] [] h := by
  unfold P_X8_deliver_j77 at hp
  refine x_iconst hC dX8_deliver_77 ic_0 ?_
  refine x_istore (lv' := [(5, .int 0), (0, .ref 0), (2, .int i2), (3, .ref q3), (4, .int i4)]) hC dX8_deliver_78 (by decide) rfl ?_
  exact x_subk [1, 2, 3, 4, 0] rfl (l_X8_deliver_j80 hC hE hq3  hp)
set_option maxHeartbeats 4000000 in
theorem l_X8_deliver_j61 {i2 : Int32} {q3 : Nat} {i4 : Int32} {h : HP}  {Q : Int32 → HP → Prop} {C : Cx} (hC : xOk C cX8_deliver yX8_deliver.cls 6 rm_X8_deliver (some .int)) (hE : xEnd C gC SH (pI Q)) (hq3 : Ty gC q3 2 0)  (hp : P_X8_deliver_j61 0 i2 q3 i4 h  Q) : SW C gC 61 [(0, .ref 0), (2, .int i2), (3, .ref q3), (4, .int i4)] [] h := by
  unfold P_X8_deliver_j61 at hp
  refine x_aload_n hC dX8_deliver_61 (lm 2 rfl) ?_
  refine s_getI hC dX8_deliver_62 fk_8_198 hq3 ?_
  refine x_iconst hC dX8_deliver_65 ic_2 ?_
  refine x_icmp_eq (tgt := 77) hC dX8_deliver_66 (by decide) (fun hc => ?_) (fun hc => ?_)
  · have hp := hp.1 hc
    exact x_subk [0, 1, 2, 3] rfl (l_X8_deliver_j77 hC hE hq3  hp)
  · have hp := hp.2 hc
    refine x_iload_n hC dX8_deliver_69 (lm 1 rfl) ?_
    refine x_if_eq (tgt := 77) hC dX8_deliver_70 (by decide) (fun hc => ?_) (fun hc => ?_)
    · have hp := hp.1 hc
      exact x_subk [0, 1, 2, 3] rfl (l_X8_deliver_j77 hC hE hq3  hp)
    · have hp := hp.2 hc
      refine x_iconst hC dX8_deliver_73 ic_1 ?_
      refine x_goto (tgt := 78) hC dX8_deliver_74 (by decide) ?_
      refine x_istore (lv' := [(5, .int 1), (0, .ref 0), (2, .int i2), (3, .ref q3), (4, .int i4)]) hC dX8_deliver_78 (by decide) rfl ?_
      exact x_subk [1, 2, 3, 4, 0] rfl (l_X8_deliver_j80 hC hE hq3  hp)
set_option maxHeartbeats 4000000 in
theorem l_X8_deliver_j58 {i2 : Int32} {q3 : Nat} {h : HP}  {Q : Int32 → HP → Prop} {C : Cx} (hC : xOk C cX8_deliver yX8_deliver.cls 6 rm_X8_deliver (some .int)) (hE : xEnd C gC SH (pI Q)) (hq3 : Ty gC q3 2 0)  (hp : P_X8_deliver_j58 0 i2 q3 h  Q) : SW C gC 58 [(0, .ref 0), (2, .int i2), (3, .ref q3)] [] h := by
  unfold P_X8_deliver_j58 at hp
  refine x_iconst hC dX8_deliver_58 ic_0 ?_
  refine x_istore (lv' := [(4, .int 0), (0, .ref 0), (2, .int i2), (3, .ref q3)]) hC dX8_deliver_59 (by decide) rfl ?_
  exact x_subk [1, 2, 3, 0] rfl (l_X8_deliver_j61 hC hE hq3  hp)
set_option maxHeartbeats 4000000 in
theorem t_X8_deliver {i1 : Int32} {i2 : Int32} {h : HP} {Q : Int32 → HP → Prop}  (hp : P_X8_deliver i1 i2 h Q) : MT yX8_deliver cX8_deliver 6 (some .int) rm_X8_deliver [.ref 0, .int i1, .int i2] gC SH (emb h) (pI Q) := by
  refine MT.of (by decide +kernel) (Nat.le_of_ble_eq_true rfl) (fun C hC hE => ?_)
  show SW C gC 0 [(0, .ref 0), (1, .int i1), (2, .int i2)] [] h
  unfold P_X8_deliver at hp
  refine x_aload_n hC dX8_deliver_0 (lm 0 rfl) ?_
  refine s_getR (r := 5) hC dX8_deliver_1 fk_8_35 ty_0 (fr_8_3 ty_0).1 ?_
  refine x_iload_n hC dX8_deliver_4 (lm 1 rfl) ?_
  refine s_callVi (avs := [.int i1]) (st := []) hC dX8_deliver_5 ml_8_188 mi_X6_has ty_5 rfl (t_X6_has  hp) (Nat.le_of_ble_eq_true rfl) ⟨rfl, rfl⟩ ⟨Nat.le_of_ble_eq_true rfl, Nat.le_of_ble_eq_true rfl⟩ (fun v_5 h_5 hp => ?_)
  refine x_if_ne (tgt := 14) hC dX8_deliver_8 (by decide) (fun hc => ?_) (fun hc => ?_)
  · have hp := hp.1 hc
    refine x_iload_n hC dX8_deliver_14 (lm 2 rfl) ?_
    refine x_iconst hC dX8_deliver_15 ic_0 ?_
    refine x_sipush hC dX8_deliver_16 sp_255 ?_
    refine s_callSi (avs := [.int i2, .int 0, .int 255]) (st := []) hC dX8_deliver_19 ml_8_53 ms_X8_within rfl (t_X8_within  hp) (Nat.le_of_ble_eq_true rfl) ⟨rfl, rfl⟩ ⟨Nat.le_of_ble_eq_true rfl, Nat.le_of_ble_eq_true rfl⟩ (fun v_19 h_19 hp => ?_)
    refine x_if_ne (tgt := 28) hC dX8_deliver_22 (by decide) (fun hc => ?_) (fun hc => ?_)
    · have hp := hp.1 hc
      refine x_aload_n hC dX8_deliver_28 (lm 0 rfl) ?_
      refine s_getR (r := 5) hC dX8_deliver_29 fk_8_35 ty_0 (fr_8_3 ty_0).1 ?_
      refine x_iload_n hC dX8_deliver_32 (lm 1 rfl) ?_
      refine s_callVr (avs := [.int i1]) (st := []) hC dX8_deliver_33 ml_8_191 mi_X6_take ty_5 rfl (t_X6_take  hp) (Nat.le_of_ble_eq_true rfl) ⟨rfl, rfl⟩ ⟨Nat.le_of_ble_eq_true rfl, Nat.le_of_ble_eq_true rfl⟩ (fun v_33 h_33 hp => ?_)
      obtain ⟨ht_33, hp⟩ := hp
      refine x_astore_n (lv' := [(3, .ref v_33), (0, .ref 0), (1, .int i1), (2, .int i2)]) hC dX8_deliver_36 (by decide) rfl ?_
      refine x_aload_n hC dX8_deliver_37 (lm 0 rfl) ?_
      refine s_callVi (avs := []) (st := []) hC dX8_deliver_38 ml_8_195 mi_X2_goesToFarEnd ht_33 rfl (t_X2_goesToFarEnd ht_33 hp) (Nat.le_of_ble_eq_true rfl) ⟨rfl, rfl⟩ ⟨Nat.le_of_ble_eq_true rfl, Nat.le_of_ble_eq_true rfl⟩ (fun v_38 h_38 hp => ?_)
      refine x_if_eq (tgt := 58) hC dX8_deliver_41 (by decide) (fun hc => ?_) (fun hc => ?_)
      · have hp := hp.1 hc
        exact x_subk [1, 3, 0] rfl (l_X8_deliver_j58 hC hE ht_33  hp)
      · have hp := hp.2 hc
        refine x_aload_n hC dX8_deliver_44 (lm 1 rfl) ?_
        refine s_getR (r := 3) hC dX8_deliver_45 fk_8_19 ty_0 (fr_8_1 ty_0).1 ?_
        refine s_callVi (avs := []) (st := []) hC dX8_deliver_48 ml_8_147 mi_X0_isAwake ty_3 rfl (t_X0_isAwake  hp) (Nat.le_of_ble_eq_true rfl) ⟨rfl, rfl⟩ ⟨Nat.le_of_ble_eq_true rfl, Nat.le_of_ble_eq_true rfl⟩ (fun v_48 h_48 hp => ?_)
        refine x_if_ne (tgt := 58) hC dX8_deliver_51 (by decide) (fun hc => ?_) (fun hc => ?_)
        · have hp := hp.1 hc
          exact x_subk [1, 3, 0] rfl (l_X8_deliver_j58 hC hE ht_33  hp)
        · have hp := hp.2 hc
          refine x_iconst hC dX8_deliver_54 ic_1 ?_
          refine x_goto (tgt := 59) hC dX8_deliver_55 (by decide) ?_
          refine x_istore (lv' := [(4, .int 1), (3, .ref v_33), (0, .ref 0), (1, .int i1), (2, .int i2)]) hC dX8_deliver_59 (by decide) rfl ?_
          exact x_subk [2, 4, 1, 0] rfl (l_X8_deliver_j61 hC hE ht_33  hp)
    · have hp := hp.2 hc
      refine x_bipush hC dX8_deliver_25 bp_m102 ?_
      exact x_iret hC hE dX8_deliver_27 ⟨_, _, rfl, rfl, hp⟩
  · have hp := hp.2 hc
    refine x_bipush hC dX8_deliver_11 bp_m101 ?_
    exact x_iret hC hE dX8_deliver_13 ⟨_, _, rfl, rfl, hp⟩
theorem dX8_lose_0 : decode cX8_lose 0 = .ok (.aload_n 0, 1) := by decide +kernel
theorem dX8_lose_1 : decode cX8_lose 1 = .ok (.getfield 35, 3) := by decide +kernel
theorem dX8_lose_4 : decode cX8_lose 4 = .ok (.iload_n 1, 1) := by decide +kernel
theorem dX8_lose_5 : decode cX8_lose 5 = .ok (.invokevirtual 188, 3) := by decide +kernel
theorem dX8_lose_8 : decode cX8_lose 8 = .ok (.ifCond .ne 6, 3) := by decide +kernel
theorem dX8_lose_11 : decode cX8_lose 11 = .ok (.bipush (-101), 2) := by decide +kernel
theorem dX8_lose_13 : decode cX8_lose 13 = .ok (.ireturn, 1) := by decide +kernel
theorem dX8_lose_14 : decode cX8_lose 14 = .ok (.aload_n 0, 1) := by decide +kernel
theorem dX8_lose_15 : decode cX8_lose 15 = .ok (.getfield 26, 3) := by decide +kernel
theorem dX8_lose_18 : decode cX8_lose 18 = .ok (.dup, 1) := by decide +kernel
theorem dX8_lose_19 : decode cX8_lose 19 = .ok (.getfield 201, 3) := by decide +kernel
theorem dX8_lose_22 : decode cX8_lose 22 = .ok (.iconst 1, 1) := by decide +kernel
theorem dX8_lose_23 : decode cX8_lose 23 = .ok (.iadd, 1) := by decide +kernel
theorem dX8_lose_24 : decode cX8_lose 24 = .ok (.putfield 201, 3) := by decide +kernel
theorem dX8_lose_27 : decode cX8_lose 27 = .ok (.aload_n 0, 1) := by decide +kernel
theorem dX8_lose_28 : decode cX8_lose 28 = .ok (.getfield 35, 3) := by decide +kernel
theorem dX8_lose_31 : decode cX8_lose 31 = .ok (.iload_n 1, 1) := by decide +kernel
theorem dX8_lose_32 : decode cX8_lose 32 = .ok (.invokevirtual 191, 3) := by decide +kernel
theorem dX8_lose_35 : decode cX8_lose 35 = .ok (.getfield 198, 3) := by decide +kernel
theorem dX8_lose_38 : decode cX8_lose 38 = .ok (.ireturn, 1) := by decide +kernel
abbrev rm_X8_lose : Room := { frames := 4, cells := 0, slots := 0, locals := 87 }
def P_X8_lose (i1 : Int32) (h : HP) (Q : Int32 → HP → Prop) : Prop := P_X6_has i1 h (fun (v_5 : Int32) (h_5 : HP) => ((¬ v_5 = 0) → (P_X6_take i1 (si h_5 4 1 ((h_5.1 4 1) + 1)) (fun (v_32 : Nat) (h_32 : HP) => (Ty gC v_32 2 0) ∧ (Q (h_32.1 v_32 1) h_32)))) ∧ ((v_5 = 0) → (Q (-101) h_5)))
set_option maxHeartbeats 4000000 in
theorem t_X8_lose {i1 : Int32} {h : HP} {Q : Int32 → HP → Prop}  (hp : P_X8_lose i1 h Q) : MT yX8_lose cX8_lose 2 (some .int) rm_X8_lose [.ref 0, .int i1] gC SH (emb h) (pI Q) := by
  refine MT.of (by decide +kernel) (Nat.le_of_ble_eq_true rfl) (fun C hC hE => ?_)
  show SW C gC 0 [(0, .ref 0), (1, .int i1)] [] h
  unfold P_X8_lose at hp
  refine x_aload_n hC dX8_lose_0 (lm 0 rfl) ?_
  refine s_getR (r := 5) hC dX8_lose_1 fk_8_35 ty_0 (fr_8_3 ty_0).1 ?_
  refine x_iload_n hC dX8_lose_4 (lm 1 rfl) ?_
  refine s_callVi (avs := [.int i1]) (st := []) hC dX8_lose_5 ml_8_188 mi_X6_has ty_5 rfl (t_X6_has  hp) (Nat.le_of_ble_eq_true rfl) ⟨rfl, rfl⟩ ⟨Nat.le_of_ble_eq_true rfl, Nat.le_of_ble_eq_true rfl⟩ (fun v_5 h_5 hp => ?_)
  refine x_if_ne (tgt := 14) hC dX8_lose_8 (by decide) (fun hc => ?_) (fun hc => ?_)
  · have hp := hp.1 hc
    refine x_aload_n hC dX8_lose_14 (lm 0 rfl) ?_
    refine s_getR (r := 4) hC dX8_lose_15 fk_8_26 ty_0 (fr_8_2 ty_0).1 ?_
    refine x_dup hC dX8_lose_18 rfl ?_
    refine s_getI hC dX8_lose_19 fk_8_201 ty_4 ?_
    refine x_iconst hC dX8_lose_22 ic_1 ?_
    refine x_iadd hC dX8_lose_23 ?_
    refine s_putI hC dX8_lose_24 fk_8_201 rfl rfl ty_4 ?_
    refine x_aload_n hC dX8_lose_27 (lm 0 rfl) ?_
    refine s_getR (r := 5) hC dX8_lose_28 fk_8_35 ty_0 (fr_8_3 ty_0).1 ?_
    refine x_iload_n hC dX8_lose_31 (lm 1 rfl) ?_
    refine s_callVr (avs := [.int i1]) (st := []) hC dX8_lose_32 ml_8_191 mi_X6_take ty_5 rfl (t_X6_take  hp) (Nat.le_of_ble_eq_true rfl) ⟨rfl, rfl⟩ ⟨Nat.le_of_ble_eq_true rfl, Nat.le_of_ble_eq_true rfl⟩ (fun v_32 h_32 hp => ?_)
    obtain ⟨ht_32, hp⟩ := hp
    refine s_getI hC dX8_lose_35 fk_8_198 ht_32 ?_
    exact x_iret hC hE dX8_lose_38 ⟨_, _, rfl, rfl, hp⟩
  · have hp := hp.2 hc
    refine x_bipush hC dX8_lose_11 bp_m101 ?_
    exact x_iret hC hE dX8_lose_13 ⟨_, _, rfl, rfl, hp⟩
theorem dX8_pass_0 : decode cX8_pass 0 = .ok (.iload_n 1, 1) := by decide +kernel
theorem dX8_pass_1 : decode cX8_pass 1 = .ok (.iconst 1, 1) := by decide +kernel
theorem dX8_pass_2 : decode cX8_pass 2 = .ok (.bipush 60, 2) := by decide +kernel
theorem dX8_pass_4 : decode cX8_pass 4 = .ok (.invokestatic 53, 3) := by decide +kernel
theorem dX8_pass_7 : decode cX8_pass 7 = .ok (.ifCond .ne 6, 3) := by decide +kernel
theorem dX8_pass_10 : decode cX8_pass 10 = .ok (.bipush (-102), 2) := by decide +kernel
theorem dX8_pass_12 : decode cX8_pass 12 = .ok (.ireturn, 1) := by decide +kernel
theorem dX8_pass_13 : decode cX8_pass 13 = .ok (.aload_n 0, 1) := by decide +kernel
theorem dX8_pass_14 : decode cX8_pass 14 = .ok (.getfield 19, 3) := by decide +kernel
theorem dX8_pass_17 : decode cX8_pass 17 = .ok (.getfield 97, 3) := by decide +kernel
theorem dX8_pass_20 : decode cX8_pass 20 = .ok (.ifCond .ne 6, 3) := by decide +kernel
theorem dX8_pass_23 : decode cX8_pass 23 = .ok (.bipush (-103), 2) := by decide +kernel
theorem dX8_pass_25 : decode cX8_pass 25 = .ok (.ireturn, 1) := by decide +kernel
theorem dX8_pass_26 : decode cX8_pass 26 = .ok (.iconst 0, 1) := by decide +kernel
theorem dX8_pass_27 : decode cX8_pass 27 = .ok (.istore_n 2, 1) := by decide +kernel
theorem dX8_pass_28 : decode cX8_pass 28 = .ok (.iload_n 2, 1) := by decide +kernel
theorem dX8_pass_29 : decode cX8_pass 29 = .ok (.iload_n 1, 1) := by decide +kernel
theorem dX8_pass_30 : decode cX8_pass 30 = .ok (.if_icmp .ge 44, 3) := by decide +kernel
theorem dX8_pass_33 : decode cX8_pass 33 = .ok (.aload_n 0, 1) := by decide +kernel
theorem dX8_pass_34 : decode cX8_pass 34 = .ok (.getfield 19, 3) := by decide +kernel
theorem dX8_pass_37 : decode cX8_pass 37 = .ok (.dup, 1) := by decide +kernel
theorem dX8_pass_38 : decode cX8_pass 38 = .ok (.getfield 212, 3) := by decide +kernel
theorem dX8_pass_41 : decode cX8_pass 41 = .ok (.iconst 1, 1) := by decide +kernel
theorem dX8_pass_42 : decode cX8_pass 42 = .ok (.iadd, 1) := by decide +kernel
theorem dX8_pass_43 : decode cX8_pass 43 = .ok (.putfield 212, 3) := by decide +kernel
theorem dX8_pass_46 : decode cX8_pass 46 = .ok (.iconst 0, 1) := by decide +kernel
theorem dX8_pass_47 : decode cX8_pass 47 = .ok (.istore_n 3, 1) := by decide +kernel
theorem dX8_pass_48 : decode cX8_pass 48 = .ok (.iload_n 3, 1) := by decide +kernel
theorem dX8_pass_49 : decode cX8_pass 49 = .ok (.iconst 4, 1) := by decide +kernel
theorem dX8_pass_50 : decode cX8_pass 50 = .ok (.if_icmp .ge 18, 3) := by decide +kernel
theorem dX8_pass_53 : decode cX8_pass 53 = .ok (.aload_n 0, 1) := by decide +kernel
theorem dX8_pass_54 : decode cX8_pass 54 = .ok (.getfield 47, 3) := by decide +kernel
theorem dX8_pass_57 : decode cX8_pass 57 = .ok (.iload_n 3, 1) := by decide +kernel
theorem dX8_pass_58 : decode cX8_pass 58 = .ok (.aaload, 1) := by decide +kernel
theorem dX8_pass_59 : decode cX8_pass 59 = .ok (.invokevirtual 215, 3) := by decide +kernel
theorem dX8_pass_62 : decode cX8_pass 62 = .ok (.iinc 3 1, 3) := by decide +kernel
theorem dX8_pass_65 : decode cX8_pass 65 = .ok (.goto (-17), 3) := by decide +kernel
theorem dX8_pass_68 : decode cX8_pass 68 = .ok (.iinc 2 1, 3) := by decide +kernel
theorem dX8_pass_71 : decode cX8_pass 71 = .ok (.goto (-43), 3) := by decide +kernel
theorem dX8_pass_74 : decode cX8_pass 74 = .ok (.aload_n 0, 1) := by decide +kernel
theorem dX8_pass_75 : decode cX8_pass 75 = .ok (.getfield 19, 3) := by decide +kernel
theorem dX8_pass_78 : decode cX8_pass 78 = .ok (.getfield 212, 3) := by decide +kernel
theorem dX8_pass_81 : decode cX8_pass 81 = .ok (.ireturn, 1) := by decide +kernel
abbrev rm_X8_pass : Room := { frames := 5, cells := 0, slots := 0, locals := 107 }
def P_X8_pass (i1 : Int32) (h : HP) (Q : Int32 → HP → Prop) : Prop := P_X8_within i1 1 60 h (fun (v_4 : Int32) (h_4 : HP) => ((¬ v_4 = 0) → (((¬ (h_4.1 3 0) = 0) → (Lp2 (fun X_28 (i2_28 : Int32) (h_28 : HP) => ((i1 ≤ i2_28) → (Q (h_28.1 3 5) h_28)) ∧ ((¬ i1 ≤ i2_28) → (Lp2 (fun X_48 (i3_48 : Int32) (h_48 : HP) => ((4 ≤ i3_48) → (X_28 (i2_28 + 1) h_48)) ∧ ((¬ 4 ≤ i3_48) → ((vp_in i3_48 4) ∧ (P_X1_tick (41 + 11 * i3_48.toNatClampNeg) h_48 (fun (h_59 : HP) => X_48 (i3_48 + 1) h_59))))) 0 (si h_28 3 5 ((h_28.1 3 5) + 1))))) 0 h_4)) ∧ (((h_4.1 3 0) = 0) → (Q (-103) h_4)))) ∧ ((v_4 = 0) → (Q (-102) h_4)))
set_option maxHeartbeats 4000000 in
theorem t_X8_pass {i1 : Int32} {h : HP} {Q : Int32 → HP → Prop}  (hp : P_X8_pass i1 h Q) : MT yX8_pass cX8_pass 4 (some .int) rm_X8_pass [.ref 0, .int i1] gC SH (emb h) (pI Q) := by
  refine MT.of (by decide +kernel) (Nat.le_of_ble_eq_true rfl) (fun C hC hE => ?_)
  show SW C gC 0 [(0, .ref 0), (1, .int i1)] [] h
  unfold P_X8_pass at hp
  refine x_iload_n hC dX8_pass_0 (lm 1 rfl) ?_
  refine x_iconst hC dX8_pass_1 ic_1 ?_
  refine x_bipush hC dX8_pass_2 bp_60 ?_
  refine s_callSi (avs := [.int i1, .int 1, .int 60]) (st := []) hC dX8_pass_4 ml_8_53 ms_X8_within rfl (t_X8_within  hp) (Nat.le_of_ble_eq_true rfl) ⟨rfl, rfl⟩ ⟨Nat.le_of_ble_eq_true rfl, Nat.le_of_ble_eq_true rfl⟩ (fun v_4 h_4 hp => ?_)
  refine x_if_ne (tgt := 13) hC dX8_pass_7 (by decide) (fun hc => ?_) (fun hc => ?_)
  · have hp := hp.1 hc
    refine x_aload_n hC dX8_pass_13 (lm 0 rfl) ?_
    refine s_getR (r := 3) hC dX8_pass_14 fk_8_19 ty_0 (fr_8_1 ty_0).1 ?_
    refine s_getZ hC dX8_pass_17 fk_8_97 ty_3 ?_
    refine x_if_ne (tgt := 26) hC dX8_pass_20 (by decide) (fun hc => ?_) (fun hc => ?_)
    · have hp := hp.1 hc
      refine x_iconst hC dX8_pass_26 ic_0 ?_
      refine x_istore_n (lv' := [(2, .int 0), (0, .ref 0), (1, .int i1)]) hC dX8_pass_27 (by decide) rfl ?_
      refine x_subk (lv' := [(0, .ref 0), (1, .int i1), (2, .int 0)]) [1, 2, 0] rfl ?_
      refine hp (fun i2_28 h_28 => SW C gC 28 [(0, .ref 0), (1, .int i1), (2, .int i2_28)] [] h_28) (fun i2_28 h_28 hp => ?_)
      refine x_iload_n hC dX8_pass_28 (lm 2 rfl) ?_
      refine x_iload_n hC dX8_pass_29 (lm 1 rfl) ?_
      refine x_icmp_ge (tgt := 74) hC dX8_pass_30 (by decide) (fun hc => ?_) (fun hc => ?_)
      · have hp := hp.1 hc
        refine x_aload_n hC dX8_pass_74 (lm 0 rfl) ?_
        refine s_getR (r := 3) hC dX8_pass_75 fk_8_19 ty_0 (fr_8_1 ty_0).1 ?_
        refine s_getI hC dX8_pass_78 fk_8_212 ty_3 ?_
        exact x_iret hC hE dX8_pass_81 ⟨_, _, rfl, rfl, hp⟩
      · have hp := hp.2 hc
        refine x_aload_n hC dX8_pass_33 (lm 0 rfl) ?_
        refine s_getR (r := 3) hC dX8_pass_34 fk_8_19 ty_0 (fr_8_1 ty_0).1 ?_
        refine x_dup hC dX8_pass_37 rfl ?_
        refine s_getI hC dX8_pass_38 fk_8_212 ty_3 ?_
        refine x_iconst hC dX8_pass_41 ic_1 ?_
        refine x_iadd hC dX8_pass_42 ?_
        refine s_putI hC dX8_pass_43 fk_8_212 rfl rfl ty_3 ?_
        refine x_iconst hC dX8_pass_46 ic_0 ?_
        refine x_istore_n (lv' := [(3, .int 0), (0, .ref 0), (1, .int i1), (2, .int i2_28)]) hC dX8_pass_47 (by decide) rfl ?_
        refine x_subk (lv' := [(0, .ref 0), (1, .int i1), (2, .int i2_28), (3, .int 0)]) [1, 2, 3, 0] rfl ?_
        refine hp (fun i3_48 h_48 => SW C gC 48 [(0, .ref 0), (1, .int i1), (2, .int i2_28), (3, .int i3_48)] [] h_48) (fun i3_48 h_48 hp => ?_)
        refine x_iload_n hC dX8_pass_48 (lm 3 rfl) ?_
        refine x_iconst hC dX8_pass_49 ic_4 ?_
        refine x_icmp_ge (tgt := 68) hC dX8_pass_50 (by decide) (fun hc => ?_) (fun hc => ?_)
        · have hp := hp.1 hc
          refine x_iinc (u := i2_28 + 1) (lv' := [(2, .int (i2_28 + 1)), (0, .ref 0), (1, .int i1), (3, .int i3_48)]) hC dX8_pass_68 (lm 2 rfl) (congrArg _ ic_1) (by decide) rfl ?_
          refine x_goto (tgt := 28) hC dX8_pass_71 (by decide) ?_
          exact x_subk [1, 2, 0] rfl hp
        · have hp := hp.2 hc
          refine x_aload_n hC dX8_pass_53 (lm 0 rfl) ?_
          refine s_getR (r := 33) hC dX8_pass_54 fk_8_47 ty_0 (fr_8_5 ty_0).1 ?_
          refine x_iload_n hC dX8_pass_57 (lm 3 rfl) ?_
          obtain ⟨ho_58, hp⟩ := hp
          refine s_aald (r := 41 + 11 * i3_48.toNatClampNeg) (ci := 1) hC dX8_pass_58 (by decide) (by decide) ((fr_8_5 ty_0).2) ho_58 (el_33 ho_58).1 ?_
          refine s_callVv (avs := []) (st := []) hC dX8_pass_59 ml_8_215 mi_X1_tick ((el_33 ho_58).2) rfl (t_X1_tick ((el_33 ho_58).2) hp) (Nat.le_of_ble_eq_true rfl) ⟨rfl, rfl⟩ ⟨Nat.le_of_ble_eq_true rfl, Nat.le_of_ble_eq_true rfl⟩ (fun h_59 hp => ?_)
          refine x_iinc (u := i3_48 + 1) (lv' := [(3, .int (i3_48 + 1)), (0, .ref 0), (1, .int i1), (2, .int i2_28)]) hC dX8_pass_62 (lm 3 rfl) (congrArg _ ic_1) (by decide) rfl ?_
          refine x_goto (tgt := 48) hC dX8_pass_65 (by decide) ?_
          exact x_subk [1, 2, 3, 0] rfl hp
    · have hp := hp.2 hc
      refine x_bipush hC dX8_pass_23 bp_m103 ?_
      exact x_iret hC hE dX8_pass_25 ⟨_, _, rfl, rfl, hp⟩
  · have hp := hp.2 hc
    refine x_bipush hC dX8_pass_10 bp_m102 ?_
    exact x_iret hC hE dX8_pass_12 ⟨_, _, rfl, rfl, hp⟩
theorem dX8_about_0 : decode cX8_about 0 = .ok (.iload_n 1, 1) := by decide +kernel
theorem dX8_about_1 : decode cX8_about 1 = .ok (.iconst 0, 1) := by decide +kernel
theorem dX8_about_2 : decode cX8_about 2 = .ok (.bipush 6, 2) := by decide +kernel
theorem dX8_about_4 : decode cX8_about 4 = .ok (.invokestatic 53, 3) := by decide +kernel
theorem dX8_about_7 : decode cX8_about 7 = .ok (.ifCond .ne 6, 3) := by decide +kernel
theorem dX8_about_10 : decode cX8_about 10 = .ok (.bipush (-102), 2) := by decide +kernel
theorem dX8_about_12 : decode cX8_about 12 = .ok (.ireturn, 1) := by decide +kernel
theorem dX8_about_13 : decode cX8_about 13 = .ok (.aload_n 0, 1) := by decide +kernel
theorem dX8_about_14 : decode cX8_about 14 = .ok (.getfield 19, 3) := by decide +kernel
theorem dX8_about_17 : decode cX8_about 17 = .ok (.getfield 97, 3) := by decide +kernel
theorem dX8_about_20 : decode cX8_about 20 = .ok (.ifCond .eq 14, 3) := by decide +kernel
theorem dX8_about_23 : decode cX8_about 23 = .ok (.aload_n 0, 1) := by decide +kernel
theorem dX8_about_24 : decode cX8_about 24 = .ok (.getfield 19, 3) := by decide +kernel
theorem dX8_about_27 : decode cX8_about 27 = .ok (.iload_n 1, 1) := by decide +kernel
theorem dX8_about_28 : decode cX8_about 28 = .ok (.invokevirtual 218, 3) := by decide +kernel
theorem dX8_about_31 : decode cX8_about 31 = .ok (.goto 5, 3) := by decide +kernel
theorem dX8_about_34 : decode cX8_about 34 = .ok (.bipush (-103), 2) := by decide +kernel
theorem dX8_about_36 : decode cX8_about 36 = .ok (.ireturn, 1) := by decide +kernel
abbrev rm_X8_about : Room := { frames := 3, cells := 0, slots := 0, locals := 63 }
def P_X8_about (i1 : Int32) (h : HP) (Q : Int32 → HP → Prop) : Prop := P_X8_within i1 0 6 h (fun (v_4 : Int32) (h_4 : HP) => ((¬ v_4 = 0) → ((((h_4.1 3 0) = 0) → (Q (-103) h_4)) ∧ ((¬ (h_4.1 3 0) = 0) → (P_X0_tell i1 h_4 (fun (v_28 : Int32) (h_28 : HP) => Q v_28 h_28))))) ∧ ((v_4 = 0) → (Q (-102) h_4)))
set_option maxHeartbeats 4000000 in
theorem t_X8_about {i1 : Int32} {h : HP} {Q : Int32 → HP → Prop}  (hp : P_X8_about i1 h Q) : MT yX8_about cX8_about 2 (some .int) rm_X8_about [.ref 0, .int i1] gC SH (emb h) (pI Q) := by
  refine MT.of (by decide +kernel) (Nat.le_of_ble_eq_true rfl) (fun C hC hE => ?_)
  show SW C gC 0 [(0, .ref 0), (1, .int i1)] [] h
  unfold P_X8_about at hp
  refine x_iload_n hC dX8_about_0 (lm 1 rfl) ?_
  refine x_iconst hC dX8_about_1 ic_0 ?_
  refine x_bipush hC dX8_about_2 bp_6 ?_
  refine s_callSi (avs := [.int i1, .int 0, .int 6]) (st := []) hC dX8_about_4 ml_8_53 ms_X8_within rfl (t_X8_within  hp) (Nat.le_of_ble_eq_true rfl) ⟨rfl, rfl⟩ ⟨Nat.le_of_ble_eq_true rfl, Nat.le_of_ble_eq_true rfl⟩ (fun v_4 h_4 hp => ?_)
  refine x_if_ne (tgt := 13) hC dX8_about_7 (by decide) (fun hc => ?_) (fun hc => ?_)
  · have hp := hp.1 hc
    refine x_aload_n hC dX8_about_13 (lm 0 rfl) ?_
    refine s_getR (r := 3) hC dX8_about_14 fk_8_19 ty_0 (fr_8_1 ty_0).1 ?_
    refine s_getZ hC dX8_about_17 fk_8_97 ty_3 ?_
    refine x_if_eq (tgt := 34) hC dX8_about_20 (by decide) (fun hc => ?_) (fun hc => ?_)
    · have hp := hp.1 hc
      refine x_bipush hC dX8_about_34 bp_m103 ?_
      exact x_iret hC hE dX8_about_36 ⟨_, _, rfl, rfl, hp⟩
    · have hp := hp.2 hc
      refine x_aload_n hC dX8_about_23 (lm 0 rfl) ?_
      refine s_getR (r := 3) hC dX8_about_24 fk_8_19 ty_0 (fr_8_1 ty_0).1 ?_
      refine x_iload_n hC dX8_about_27 (lm 1 rfl) ?_
      refine s_callVi (avs := [.int i1]) (st := []) hC dX8_about_28 ml_8_218 mi_X0_tell ty_3 rfl (t_X0_tell  hp) (Nat.le_of_ble_eq_true rfl) ⟨rfl, rfl⟩ ⟨Nat.le_of_ble_eq_true rfl, Nat.le_of_ble_eq_true rfl⟩ (fun v_28 h_28 hp => ?_)
      refine x_goto (tgt := 36) hC dX8_about_31 (by decide) ?_
      exact x_iret hC hE dX8_about_36 ⟨_, _, rfl, rfl, hp⟩
  · have hp := hp.2 hc
    refine x_bipush hC dX8_about_10 bp_m102 ?_
    exact x_iret hC hE dX8_about_12 ⟨_, _, rfl, rfl, hp⟩
theorem dX8_near_0 : decode cX8_near 0 = .ok (.aload_n 0, 1) := by decide +kernel
theorem dX8_near_1 : decode cX8_near 1 = .ok (.iload_n 1, 1) := by decide +kernel
theorem dX8_near_2 : decode cX8_near 2 = .ok (.invokevirtual 131, 3) := by decide +kernel
theorem dX8_near_5 : decode cX8_near 5 = .ok (.ifCond .ne 6, 3) := by decide +kernel
theorem dX8_near_8 : decode cX8_near 8 = .ok (.bipush (-101), 2) := by decide +kernel
theorem dX8_near_10 : decode cX8_near 10 = .ok (.ireturn, 1) := by decide +kernel
theorem dX8_near_11 : decode cX8_near 11 = .ok (.iload_n 2, 1) := by decide +kernel
theorem dX8_near_12 : decode cX8_near 12 = .ok (.iconst 0, 1) := by decide +kernel
theorem dX8_near_13 : decode cX8_near 13 = .ok (.bipush 9, 2) := by decide +kernel
theorem dX8_near_15 : decode cX8_near 15 = .ok (.invokestatic 53, 3) := by decide +kernel
theorem dX8_near_18 : decode cX8_near 18 = .ok (.ifCond .ne 6, 3) := by decide +kernel
theorem dX8_near_21 : decode cX8_near 21 = .ok (.bipush (-102), 2) := by decide +kernel
theorem dX8_near_23 : decode cX8_near 23 = .ok (.ireturn, 1) := by decide +kernel
theorem dX8_near_24 : decode cX8_near 24 = .ok (.aload_n 0, 1) := by decide +kernel
theorem dX8_near_25 : decode cX8_near 25 = .ok (.getfield 41, 3) := by decide +kernel
theorem dX8_near_28 : decode cX8_near 28 = .ok (.iload_n 1, 1) := by decide +kernel
theorem dX8_near_29 : decode cX8_near 29 = .ok (.aaload, 1) := by decide +kernel
theorem dX8_near_30 : decode cX8_near 30 = .ok (.iload_n 2, 1) := by decide +kernel
theorem dX8_near_31 : decode cX8_near 31 = .ok (.invokevirtual 221, 3) := by decide +kernel
theorem dX8_near_34 : decode cX8_near 34 = .ok (.ireturn, 1) := by decide +kernel
abbrev rm_X8_near : Room := { frames := 4, cells := 0, slots := 0, locals := 85 }
def P_X8_near (i1 : Int32) (i2 : Int32) (h : HP) (Q : Int32 → HP → Prop) : Prop := P_X8_isClassOfAir i1 h (fun (v_2 : Int32) (h_2 : HP) => ((¬ v_2 = 0) → (P_X8_within i2 0 9 h_2 (fun (v_15 : Int32) (h_15 : HP) => ((¬ v_15 = 0) → ((vp_in i1 4) ∧ (P_X3_tell (34 + 11 * i1.toNatClampNeg) i2 h_15 (fun (v_31 : Int32) (h_31 : HP) => Q v_31 h_31)))) ∧ ((v_15 = 0) → (Q (-102) h_15))))) ∧ ((v_2 = 0) → (Q (-101) h_2)))
set_option maxHeartbeats 4000000 in
theorem t_X8_near {i1 : Int32} {i2 : Int32} {h : HP} {Q : Int32 → HP → Prop}  (hp : P_X8_near i1 i2 h Q) : MT yX8_near cX8_near 3 (some .int) rm_X8_near [.ref 0, .int i1, .int i2] gC SH (emb h) (pI Q) := by
  refine MT.of (by decide +kernel) (Nat.le_of_ble_eq_true rfl) (fun C hC hE => ?_)
  show SW C gC 0 [(0, .ref 0), (1, .int i1), (2, .int i2)] [] h
  unfold P_X8_near at hp
  refine x_aload_n hC dX8_near_0 (lm 0 rfl) ?_
  refine x_iload_n hC dX8_near_1 (lm 1 rfl) ?_
  refine s_callVi (avs := [.int i1]) (st := []) hC dX8_near_2 ml_8_131 mi_X8_isClassOfAir ty_0 rfl (t_X8_isClassOfAir  hp) (Nat.le_of_ble_eq_true rfl) ⟨rfl, rfl⟩ ⟨Nat.le_of_ble_eq_true rfl, Nat.le_of_ble_eq_true rfl⟩ (fun v_2 h_2 hp => ?_)
  refine x_if_ne (tgt := 11) hC dX8_near_5 (by decide) (fun hc => ?_) (fun hc => ?_)
  · have hp := hp.1 hc
    refine x_iload_n hC dX8_near_11 (lm 2 rfl) ?_
    refine x_iconst hC dX8_near_12 ic_0 ?_
    refine x_bipush hC dX8_near_13 bp_9 ?_
    refine s_callSi (avs := [.int i2, .int 0, .int 9]) (st := []) hC dX8_near_15 ml_8_53 ms_X8_within rfl (t_X8_within  hp) (Nat.le_of_ble_eq_true rfl) ⟨rfl, rfl⟩ ⟨Nat.le_of_ble_eq_true rfl, Nat.le_of_ble_eq_true rfl⟩ (fun v_15 h_15 hp => ?_)
    refine x_if_ne (tgt := 24) hC dX8_near_18 (by decide) (fun hc => ?_) (fun hc => ?_)
    · have hp := hp.1 hc
      refine x_aload_n hC dX8_near_24 (lm 0 rfl) ?_
      refine s_getR (r := 32) hC dX8_near_25 fk_8_41 ty_0 (fr_8_4 ty_0).1 ?_
      refine x_iload_n hC dX8_near_28 (lm 1 rfl) ?_
      obtain ⟨ho_29, hp⟩ := hp
      refine s_aald (r := 34 + 11 * i1.toNatClampNeg) (ci := 3) hC dX8_near_29 (by decide) (by decide) ((fr_8_4 ty_0).2) ho_29 (el_32 ho_29).1 ?_
      refine x_iload_n hC dX8_near_30 (lm 2 rfl) ?_
      refine s_callVi (avs := [.int i2]) (st := []) hC dX8_near_31 ml_8_221 mi_X3_tell ((el_32 ho_29).2) rfl (t_X3_tell ((el_32 ho_29).2) hp) (Nat.le_of_ble_eq_true rfl) ⟨rfl, rfl⟩ ⟨Nat.le_of_ble_eq_true rfl, Nat.le_of_ble_eq_true rfl⟩ (fun v_31 h_31 hp => ?_)
      exact x_iret hC hE dX8_near_34 ⟨_, _, rfl, rfl, hp⟩
    · have hp := hp.2 hc
      refine x_bipush hC dX8_near_21 bp_m102 ?_
      exact x_iret hC hE dX8_near_23 ⟨_, _, rfl, rfl, hp⟩
  · have hp := hp.2 hc
    refine x_bipush hC dX8_near_8 bp_m101 ?_
    exact x_iret hC hE dX8_near_10 ⟨_, _, rfl, rfl, hp⟩
theorem dX8_given_0 : decode cX8_given 0 = .ok (.aload_n 0, 1) := by decide +kernel
theorem dX8_given_1 : decode cX8_given 1 = .ok (.iload_n 1, 1) := by decide +kernel
theorem dX8_given_2 : decode cX8_given 2 = .ok (.invokevirtual 131, 3) := by decide +kernel
theorem dX8_given_5 : decode cX8_given 5 = .ok (.ifCond .eq 16, 3) := by decide +kernel
theorem dX8_given_8 : decode cX8_given 8 = .ok (.aload_n 0, 1) := by decide +kernel
theorem dX8_given_9 : decode cX8_given 9 = .ok (.getfield 41, 3) := by decide +kernel
theorem dX8_given_12 : decode cX8_given 12 = .ok (.iload_n 1, 1) := by decide +kernel
theorem dX8_given_13 : decode cX8_given 13 = .ok (.aaload, 1) := by decide +kernel
theorem dX8_given_14 : decode cX8_given 14 = .ok (.iload_n 2, 1) := by decide +kernel
theorem dX8_given_15 : decode cX8_given 15 = .ok (.invokevirtual 222, 3) := by decide +kernel
theorem dX8_given_18 : decode cX8_given 18 = .ok (.ifCond .ne 6, 3) := by decide +kernel
theorem dX8_given_21 : decode cX8_given 21 = .ok (.bipush (-101), 2) := by decide +kernel
theorem dX8_given_23 : decode cX8_given 23 = .ok (.ireturn, 1) := by decide +kernel
theorem dX8_given_24 : decode cX8_given 24 = .ok (.iload_n 3, 1) := by decide +kernel
theorem dX8_given_25 : decode cX8_given 25 = .ok (.iconst 0, 1) := by decide +kernel
theorem dX8_given_26 : decode cX8_given 26 = .ok (.iconst 4, 1) := by decide +kernel
theorem dX8_given_27 : decode cX8_given 27 = .ok (.invokestatic 53, 3) := by decide +kernel
theorem dX8_given_30 : decode cX8_given 30 = .ok (.ifCond .ne 6, 3) := by decide +kernel
theorem dX8_given_33 : decode cX8_given 33 = .ok (.bipush (-102), 2) := by decide +kernel
theorem dX8_given_35 : decode cX8_given 35 = .ok (.ireturn, 1) := by decide +kernel
theorem dX8_given_36 : decode cX8_given 36 = .ok (.aload_n 0, 1) := by decide +kernel
theorem dX8_given_37 : decode cX8_given 37 = .ok (.getfield 41, 3) := by decide +kernel
theorem dX8_given_40 : decode cX8_given 40 = .ok (.iload_n 1, 1) := by decide +kernel
theorem dX8_given_41 : decode cX8_given 41 = .ok (.aaload, 1) := by decide +kernel
theorem dX8_given_42 : decode cX8_given 42 = .ok (.iload_n 2, 1) := by decide +kernel
theorem dX8_given_43 : decode cX8_given 43 = .ok (.iload_n 3, 1) := by decide +kernel
theorem dX8_given_44 : decode cX8_given 44 = .ok (.invokevirtual 225, 3) := by decide +kernel
theorem dX8_given_47 : decode cX8_given 47 = .ok (.ireturn, 1) := by decide +kernel
abbrev rm_X8_given : Room := { frames := 3, cells := 0, slots := 0, locals := 63 }
def P_X8_given (i1 : Int32) (i2 : Int32) (i3 : Int32) (h : HP) (Q : Int32 → HP → Prop) : Prop := P_X8_isClassOfAir i1 h (fun (v_2 : Int32) (h_2 : HP) => ((v_2 = 0) → (Q (-101) h_2)) ∧ ((¬ v_2 = 0) → ((vp_in i1 4) ∧ (P_X3_hasPlace (34 + 11 * i1.toNatClampNeg) i2 h_2 (fun (v_15 : Int32) (h_15 : HP) => ((¬ v_15 = 0) → (P_X8_within i3 0 4 h_15 (fun (v_27 : Int32) (h_27 : HP) => ((¬ v_27 = 0) → ((vp_in i1 4) ∧ (P_X3_tellGiven (34 + 11 * i1.toNatClampNeg) i2 i3 h_27 (fun (v_44 : Int32) (h_44 : HP) => Q v_44 h_44)))) ∧ ((v_27 = 0) → (Q (-102) h_27))))) ∧ ((v_15 = 0) → (Q (-101) h_15)))))))
set_option maxHeartbeats 4000000 in
theorem t_X8_given {i1 : Int32} {i2 : Int32} {i3 : Int32} {h : HP} {Q : Int32 → HP → Prop}  (hp : P_X8_given i1 i2 i3 h Q) : MT yX8_given cX8_given 4 (some .int) rm_X8_given [.ref 0, .int i1, .int i2, .int i3] gC SH (emb h) (pI Q) := by
  refine MT.of (by decide +kernel) (Nat.le_of_ble_eq_true rfl) (fun C hC hE => ?_)
  show SW C gC 0 [(0, .ref 0), (1, .int i1), (2, .int i2), (3, .int i3)] [] h
  unfold P_X8_given at hp
  refine x_aload_n hC dX8_given_0 (lm 0 rfl) ?_
  refine x_iload_n hC dX8_given_1 (lm 1 rfl) ?_
  refine s_callVi (avs := [.int i1]) (st := []) hC dX8_given_2 ml_8_131 mi_X8_isClassOfAir ty_0 rfl (t_X8_isClassOfAir  hp) (Nat.le_of_ble_eq_true rfl) ⟨rfl, rfl⟩ ⟨Nat.le_of_ble_eq_true rfl, Nat.le_of_ble_eq_true rfl⟩ (fun v_2 h_2 hp => ?_)
  refine x_if_eq (tgt := 21) hC dX8_given_5 (by decide) (fun hc => ?_) (fun hc => ?_)
  · have hp := hp.1 hc
    refine x_bipush hC dX8_given_21 bp_m101 ?_
    exact x_iret hC hE dX8_given_23 ⟨_, _, rfl, rfl, hp⟩
  · have hp := hp.2 hc
    refine x_aload_n hC dX8_given_8 (lm 0 rfl) ?_
    refine s_getR (r := 32) hC dX8_given_9 fk_8_41 ty_0 (fr_8_4 ty_0).1 ?_
    refine x_iload_n hC dX8_given_12 (lm 1 rfl) ?_
    obtain ⟨ho_13, hp⟩ := hp
    refine s_aald (r := 34 + 11 * i1.toNatClampNeg) (ci := 3) hC dX8_given_13 (by decide) (by decide) ((fr_8_4 ty_0).2) ho_13 (el_32 ho_13).1 ?_
    refine x_iload_n hC dX8_given_14 (lm 2 rfl) ?_
    refine s_callVi (avs := [.int i2]) (st := []) hC dX8_given_15 ml_8_222 mi_X3_hasPlace ((el_32 ho_13).2) rfl (t_X3_hasPlace ((el_32 ho_13).2) hp) (Nat.le_of_ble_eq_true rfl) ⟨rfl, rfl⟩ ⟨Nat.le_of_ble_eq_true rfl, Nat.le_of_ble_eq_true rfl⟩ (fun v_15 h_15 hp => ?_)
    refine x_if_ne (tgt := 24) hC dX8_given_18 (by decide) (fun hc => ?_) (fun hc => ?_)
    · have hp := hp.1 hc
      refine x_iload_n hC dX8_given_24 (lm 3 rfl) ?_
      refine x_iconst hC dX8_given_25 ic_0 ?_
      refine x_iconst hC dX8_given_26 ic_4 ?_
      refine s_callSi (avs := [.int i3, .int 0, .int 4]) (st := []) hC dX8_given_27 ml_8_53 ms_X8_within rfl (t_X8_within  hp) (Nat.le_of_ble_eq_true rfl) ⟨rfl, rfl⟩ ⟨Nat.le_of_ble_eq_true rfl, Nat.le_of_ble_eq_true rfl⟩ (fun v_27 h_27 hp => ?_)
      refine x_if_ne (tgt := 36) hC dX8_given_30 (by decide) (fun hc => ?_) (fun hc => ?_)
      · have hp := hp.1 hc
        refine x_aload_n hC dX8_given_36 (lm 0 rfl) ?_
        refine s_getR (r := 32) hC dX8_given_37 fk_8_41 ty_0 (fr_8_4 ty_0).1 ?_
        refine x_iload_n hC dX8_given_40 (lm 1 rfl) ?_
        obtain ⟨ho_41, hp⟩ := hp
        refine s_aald (r := 34 + 11 * i1.toNatClampNeg) (ci := 3) hC dX8_given_41 (by decide) (by decide) ((fr_8_4 ty_0).2) ho_41 (el_32 ho_41).1 ?_
        refine x_iload_n hC dX8_given_42 (lm 2 rfl) ?_
        refine x_iload_n hC dX8_given_43 (lm 3 rfl) ?_
        refine s_callVi (avs := [.int i2, .int i3]) (st := []) hC dX8_given_44 ml_8_225 mi_X3_tellGiven ((el_32 ho_41).2) rfl (t_X3_tellGiven ((el_32 ho_41).2) hp) (Nat.le_of_ble_eq_true rfl) ⟨rfl, rfl⟩ ⟨Nat.le_of_ble_eq_true rfl, Nat.le_of_ble_eq_true rfl⟩ (fun v_44 h_44 hp => ?_)
        exact x_iret hC hE dX8_given_47 ⟨_, _, rfl, rfl, hp⟩
      · have hp := hp.2 hc
        refine x_bipush hC dX8_given_33 bp_m102 ?_
        exact x_iret hC hE dX8_given_35 ⟨_, _, rfl, rfl, hp⟩
    · have hp := hp.2 hc
      refine x_bipush hC dX8_given_21 bp_m101 ?_
      exact x_iret hC hE dX8_given_23 ⟨_, _, rfl, rfl, hp⟩
theorem dX8_far_0 : decode cX8_far 0 = .ok (.aload_n 0, 1) := by decide +kernel
theorem dX8_far_1 : decode cX8_far 1 = .ok (.iload_n 1, 1) := by decide +kernel
theorem dX8_far_2 : decode cX8_far 2 = .ok (.invokevirtual 131, 3) := by decide +kernel
theorem dX8_far_5 : decode cX8_far 5 = .ok (.ifCond .ne 6, 3) := by decide +kernel
theorem dX8_far_8 : decode cX8_far 8 = .ok (.bipush (-101), 2) := by decide +kernel
theorem dX8_far_10 : decode cX8_far 10 = .ok (.ireturn, 1) := by decide +kernel
theorem dX8_far_11 : decode cX8_far 11 = .ok (.iload_n 2, 1) := by decide +kernel
theorem dX8_far_12 : decode cX8_far 12 = .ok (.iconst 0, 1) := by decide +kernel
theorem dX8_far_13 : decode cX8_far 13 = .ok (.bipush 8, 2) := by decide +kernel
theorem dX8_far_15 : decode cX8_far 15 = .ok (.invokestatic 53, 3) := by decide +kernel
theorem dX8_far_18 : decode cX8_far 18 = .ok (.ifCond .ne 6, 3) := by decide +kernel
theorem dX8_far_21 : decode cX8_far 21 = .ok (.bipush (-102), 2) := by decide +kernel
theorem dX8_far_23 : decode cX8_far 23 = .ok (.ireturn, 1) := by decide +kernel
theorem dX8_far_24 : decode cX8_far 24 = .ok (.aload_n 0, 1) := by decide +kernel
theorem dX8_far_25 : decode cX8_far 25 = .ok (.getfield 47, 3) := by decide +kernel
theorem dX8_far_28 : decode cX8_far 28 = .ok (.iload_n 1, 1) := by decide +kernel
theorem dX8_far_29 : decode cX8_far 29 = .ok (.aaload, 1) := by decide +kernel
theorem dX8_far_30 : decode cX8_far 30 = .ok (.iload_n 2, 1) := by decide +kernel
theorem dX8_far_31 : decode cX8_far 31 = .ok (.invokevirtual 228, 3) := by decide +kernel
theorem dX8_far_34 : decode cX8_far 34 = .ok (.ireturn, 1) := by decide +kernel
abbrev rm_X8_far : Room := { frames := 5, cells := 0, slots := 0, locals := 105 }
def P_X8_far (i1 : Int32) (i2 : Int32) (h : HP) (Q : Int32 → HP → Prop) : Prop := P_X8_isClassOfAir i1 h (fun (v_2 : Int32) (h_2 : HP) => ((¬ v_2 = 0) → (P_X8_within i2 0 8 h_2 (fun (v_15 : Int32) (h_15 : HP) => ((¬ v_15 = 0) → ((vp_in i1 4) ∧ (P_X1_tell (41 + 11 * i1.toNatClampNeg) i2 h_15 (fun (v_31 : Int32) (h_31 : HP) => Q v_31 h_31)))) ∧ ((v_15 = 0) → (Q (-102) h_15))))) ∧ ((v_2 = 0) → (Q (-101) h_2)))
set_option maxHeartbeats 4000000 in
theorem t_X8_far {i1 : Int32} {i2 : Int32} {h : HP} {Q : Int32 → HP → Prop}  (hp : P_X8_far i1 i2 h Q) : MT yX8_far cX8_far 3 (some .int) rm_X8_far [.ref 0, .int i1, .int i2] gC SH (emb h) (pI Q) := by
  refine MT.of (by decide +kernel) (Nat.le_of_ble_eq_true rfl) (fun C hC hE => ?_)
  show SW C gC 0 [(0, .ref 0), (1, .int i1), (2, .int i2)] [] h
  unfold P_X8_far at hp
  refine x_aload_n hC dX8_far_0 (lm 0 rfl) ?_
  refine x_iload_n hC dX8_far_1 (lm 1 rfl) ?_
  refine s_callVi (avs := [.int i1]) (st := []) hC dX8_far_2 ml_8_131 mi_X8_isClassOfAir ty_0 rfl (t_X8_isClassOfAir  hp) (Nat.le_of_ble_eq_true rfl) ⟨rfl, rfl⟩ ⟨Nat.le_of_ble_eq_true rfl, Nat.le_of_ble_eq_true rfl⟩ (fun v_2 h_2 hp => ?_)
  refine x_if_ne (tgt := 11) hC dX8_far_5 (by decide) (fun hc => ?_) (fun hc => ?_)
  · have hp := hp.1 hc
    refine x_iload_n hC dX8_far_11 (lm 2 rfl) ?_
    refine x_iconst hC dX8_far_12 ic_0 ?_
    refine x_bipush hC dX8_far_13 bp_8 ?_
    refine s_callSi (avs := [.int i2, .int 0, .int 8]) (st := []) hC dX8_far_15 ml_8_53 ms_X8_within rfl (t_X8_within  hp) (Nat.le_of_ble_eq_true rfl) ⟨rfl, rfl⟩ ⟨Nat.le_of_ble_eq_true rfl, Nat.le_of_ble_eq_true rfl⟩ (fun v_15 h_15 hp => ?_)
    refine x_if_ne (tgt := 24) hC dX8_far_18 (by decide) (fun hc => ?_) (fun hc => ?_)
    · have hp := hp.1 hc
      refine x_aload_n hC dX8_far_24 (lm 0 rfl) ?_
      refine s_getR (r := 33) hC dX8_far_25 fk_8_47 ty_0 (fr_8_5 ty_0).1 ?_
      refine x_iload_n hC dX8_far_28 (lm 1 rfl) ?_
      obtain ⟨ho_29, hp⟩ := hp
      refine s_aald (r := 41 + 11 * i1.toNatClampNeg) (ci := 1) hC dX8_far_29 (by decide) (by decide) ((fr_8_5 ty_0).2) ho_29 (el_33 ho_29).1 ?_
      refine x_iload_n hC dX8_far_30 (lm 2 rfl) ?_
      refine s_callVi (avs := [.int i2]) (st := []) hC dX8_far_31 ml_8_228 mi_X1_tell ((el_33 ho_29).2) rfl (t_X1_tell ((el_33 ho_29).2) hp) (Nat.le_of_ble_eq_true rfl) ⟨rfl, rfl⟩ ⟨Nat.le_of_ble_eq_true rfl, Nat.le_of_ble_eq_true rfl⟩ (fun v_31 h_31 hp => ?_)
      exact x_iret hC hE dX8_far_34 ⟨_, _, rfl, rfl, hp⟩
    · have hp := hp.2 hc
      refine x_bipush hC dX8_far_21 bp_m102 ?_
      exact x_iret hC hE dX8_far_23 ⟨_, _, rfl, rfl, hp⟩
  · have hp := hp.2 hc
    refine x_bipush hC dX8_far_8 bp_m101 ?_
    exact x_iret hC hE dX8_far_10 ⟨_, _, rfl, rfl, hp⟩
theorem dX8_held_0 : decode cX8_held 0 = .ok (.aload_n 0, 1) := by decide +kernel
theorem dX8_held_1 : decode cX8_held 1 = .ok (.iload_n 1, 1) := by decide +kernel
theorem dX8_held_2 : decode cX8_held 2 = .ok (.invokevirtual 131, 3) := by decide +kernel
theorem dX8_held_5 : decode cX8_held 5 = .ok (.ifCond .eq 16, 3) := by decide +kernel
theorem dX8_held_8 : decode cX8_held 8 = .ok (.aload_n 0, 1) := by decide +kernel
theorem dX8_held_9 : decode cX8_held 9 = .ok (.getfield 47, 3) := by decide +kernel
theorem dX8_held_12 : decode cX8_held 12 = .ok (.iload_n 1, 1) := by decide +kernel
theorem dX8_held_13 : decode cX8_held 13 = .ok (.aaload, 1) := by decide +kernel
theorem dX8_held_14 : decode cX8_held 14 = .ok (.iload_n 2, 1) := by decide +kernel
theorem dX8_held_15 : decode cX8_held 15 = .ok (.invokevirtual 229, 3) := by decide +kernel
theorem dX8_held_18 : decode cX8_held 18 = .ok (.ifCond .ne 6, 3) := by decide +kernel
theorem dX8_held_21 : decode cX8_held 21 = .ok (.bipush (-101), 2) := by decide +kernel
theorem dX8_held_23 : decode cX8_held 23 = .ok (.ireturn, 1) := by decide +kernel
theorem dX8_held_24 : decode cX8_held 24 = .ok (.aload_n 0, 1) := by decide +kernel
theorem dX8_held_25 : decode cX8_held 25 = .ok (.getfield 47, 3) := by decide +kernel
theorem dX8_held_28 : decode cX8_held 28 = .ok (.iload_n 1, 1) := by decide +kernel
theorem dX8_held_29 : decode cX8_held 29 = .ok (.aaload, 1) := by decide +kernel
theorem dX8_held_30 : decode cX8_held 30 = .ok (.iload_n 2, 1) := by decide +kernel
theorem dX8_held_31 : decode cX8_held 31 = .ok (.invokevirtual 230, 3) := by decide +kernel
theorem dX8_held_34 : decode cX8_held 34 = .ok (.ireturn, 1) := by decide +kernel
abbrev rm_X8_held : Room := { frames := 3, cells := 0, slots := 0, locals := 63 }
def P_X8_held (i1 : Int32) (i2 : Int32) (h : HP) (Q : Int32 → HP → Prop) : Prop := P_X8_isClassOfAir i1 h (fun (v_2 : Int32) (h_2 : HP) => ((v_2 = 0) → (Q (-101) h_2)) ∧ ((¬ v_2 = 0) → ((vp_in i1 4) ∧ (P_X1_hasPlace (41 + 11 * i1.toNatClampNeg) i2 h_2 (fun (v_15 : Int32) (h_15 : HP) => ((¬ v_15 = 0) → ((vp_in i1 4) ∧ (P_X1_keptAt (41 + 11 * i1.toNatClampNeg) i2 h_15 (fun (v_31 : Int32) (h_31 : HP) => Q v_31 h_31)))) ∧ ((v_15 = 0) → (Q (-101) h_15)))))))
set_option maxHeartbeats 4000000 in
theorem t_X8_held {i1 : Int32} {i2 : Int32} {h : HP} {Q : Int32 → HP → Prop}  (hp : P_X8_held i1 i2 h Q) : MT yX8_held cX8_held 3 (some .int) rm_X8_held [.ref 0, .int i1, .int i2] gC SH (emb h) (pI Q) := by
  refine MT.of (by decide +kernel) (Nat.le_of_ble_eq_true rfl) (fun C hC hE => ?_)
  show SW C gC 0 [(0, .ref 0), (1, .int i1), (2, .int i2)] [] h
  unfold P_X8_held at hp
  refine x_aload_n hC dX8_held_0 (lm 0 rfl) ?_
  refine x_iload_n hC dX8_held_1 (lm 1 rfl) ?_
  refine s_callVi (avs := [.int i1]) (st := []) hC dX8_held_2 ml_8_131 mi_X8_isClassOfAir ty_0 rfl (t_X8_isClassOfAir  hp) (Nat.le_of_ble_eq_true rfl) ⟨rfl, rfl⟩ ⟨Nat.le_of_ble_eq_true rfl, Nat.le_of_ble_eq_true rfl⟩ (fun v_2 h_2 hp => ?_)
  refine x_if_eq (tgt := 21) hC dX8_held_5 (by decide) (fun hc => ?_) (fun hc => ?_)
  · have hp := hp.1 hc
    refine x_bipush hC dX8_held_21 bp_m101 ?_
    exact x_iret hC hE dX8_held_23 ⟨_, _, rfl, rfl, hp⟩
  · have hp := hp.2 hc
    refine x_aload_n hC dX8_held_8 (lm 0 rfl) ?_
    refine s_getR (r := 33) hC dX8_held_9 fk_8_47 ty_0 (fr_8_5 ty_0).1 ?_
    refine x_iload_n hC dX8_held_12 (lm 1 rfl) ?_
    obtain ⟨ho_13, hp⟩ := hp
    refine s_aald (r := 41 + 11 * i1.toNatClampNeg) (ci := 1) hC dX8_held_13 (by decide) (by decide) ((fr_8_5 ty_0).2) ho_13 (el_33 ho_13).1 ?_
    refine x_iload_n hC dX8_held_14 (lm 2 rfl) ?_
    refine s_callVi (avs := [.int i2]) (st := []) hC dX8_held_15 ml_8_229 mi_X1_hasPlace ((el_33 ho_13).2) rfl (t_X1_hasPlace ((el_33 ho_13).2) hp) (Nat.le_of_ble_eq_true rfl) ⟨rfl, rfl⟩ ⟨Nat.le_of_ble_eq_true rfl, Nat.le_of_ble_eq_true rfl⟩ (fun v_15 h_15 hp => ?_)
    refine x_if_ne (tgt := 24) hC dX8_held_18 (by decide) (fun hc => ?_) (fun hc => ?_)
    · have hp := hp.1 hc
      refine x_aload_n hC dX8_held_24 (lm 0 rfl) ?_
      refine s_getR (r := 33) hC dX8_held_25 fk_8_47 ty_0 (fr_8_5 ty_0).1 ?_
      refine x_iload_n hC dX8_held_28 (lm 1 rfl) ?_
      obtain ⟨ho_29, hp⟩ := hp
      refine s_aald (r := 41 + 11 * i1.toNatClampNeg) (ci := 1) hC dX8_held_29 (by decide) (by decide) ((fr_8_5 ty_0).2) ho_29 (el_33 ho_29).1 ?_
      refine x_iload_n hC dX8_held_30 (lm 2 rfl) ?_
      refine s_callVi (avs := [.int i2]) (st := []) hC dX8_held_31 ml_8_230 mi_X1_keptAt ((el_33 ho_29).2) rfl (t_X1_keptAt ((el_33 ho_29).2) hp) (Nat.le_of_ble_eq_true rfl) ⟨rfl, rfl⟩ ⟨Nat.le_of_ble_eq_true rfl, Nat.le_of_ble_eq_true rfl⟩ (fun v_31 h_31 hp => ?_)
      exact x_iret hC hE dX8_held_34 ⟨_, _, rfl, rfl, hp⟩
    · have hp := hp.2 hc
      refine x_bipush hC dX8_held_21 bp_m101 ?_
      exact x_iret hC hE dX8_held_23 ⟨_, _, rfl, rfl, hp⟩
theorem dX8_as_0 : decode cX8_as 0 = .ok (.aload_n 0, 1) := by decide +kernel
theorem dX8_as_1 : decode cX8_as 1 = .ok (.iload_n 1, 1) := by decide +kernel
theorem dX8_as_2 : decode cX8_as 2 = .ok (.invokevirtual 131, 3) := by decide +kernel
theorem dX8_as_5 : decode cX8_as 5 = .ok (.ifCond .eq 15, 3) := by decide +kernel
theorem dX8_as_8 : decode cX8_as 8 = .ok (.aload_n 0, 1) := by decide +kernel
theorem dX8_as_9 : decode cX8_as 9 = .ok (.getfield 47, 3) := by decide +kernel
theorem dX8_as_12 : decode cX8_as 12 = .ok (.iload_n 1, 1) := by decide +kernel
theorem dX8_as_13 : decode cX8_as 13 = .ok (.aaload, 1) := by decide +kernel
theorem dX8_as_14 : decode cX8_as 14 = .ok (.getfield 233, 3) := by decide +kernel
theorem dX8_as_17 : decode cX8_as 17 = .ok (.ifCond .ne 6, 3) := by decide +kernel
theorem dX8_as_20 : decode cX8_as 20 = .ok (.bipush (-101), 2) := by decide +kernel
theorem dX8_as_22 : decode cX8_as 22 = .ok (.ireturn, 1) := by decide +kernel
theorem dX8_as_23 : decode cX8_as 23 = .ok (.iload_n 2, 1) := by decide +kernel
theorem dX8_as_24 : decode cX8_as 24 = .ok (.iconst 0, 1) := by decide +kernel
theorem dX8_as_25 : decode cX8_as 25 = .ok (.iconst 2, 1) := by decide +kernel
theorem dX8_as_26 : decode cX8_as 26 = .ok (.invokestatic 53, 3) := by decide +kernel
theorem dX8_as_29 : decode cX8_as 29 = .ok (.ifCond .ne 6, 3) := by decide +kernel
theorem dX8_as_32 : decode cX8_as 32 = .ok (.bipush (-102), 2) := by decide +kernel
theorem dX8_as_34 : decode cX8_as 34 = .ok (.ireturn, 1) := by decide +kernel
theorem dX8_as_35 : decode cX8_as 35 = .ok (.aload_n 0, 1) := by decide +kernel
theorem dX8_as_36 : decode cX8_as 36 = .ok (.getfield 47, 3) := by decide +kernel
theorem dX8_as_39 : decode cX8_as 39 = .ok (.iload_n 1, 1) := by decide +kernel
theorem dX8_as_40 : decode cX8_as 40 = .ok (.aaload, 1) := by decide +kernel
theorem dX8_as_41 : decode cX8_as 41 = .ok (.iload_n 2, 1) := by decide +kernel
theorem dX8_as_42 : decode cX8_as 42 = .ok (.invokevirtual 236, 3) := by decide +kernel
theorem dX8_as_45 : decode cX8_as 45 = .ok (.ifCond .eq 15, 3) := by decide +kernel
theorem dX8_as_48 : decode cX8_as 48 = .ok (.aload_n 0, 1) := by decide +kernel
theorem dX8_as_49 : decode cX8_as 49 = .ok (.getfield 47, 3) := by decide +kernel
theorem dX8_as_52 : decode cX8_as 52 = .ok (.iload_n 1, 1) := by decide +kernel
theorem dX8_as_53 : decode cX8_as 53 = .ok (.aaload, 1) := by decide +kernel
theorem dX8_as_54 : decode cX8_as 54 = .ok (.getfield 239, 3) := by decide +kernel
theorem dX8_as_57 : decode cX8_as 57 = .ok (.goto 4, 3) := by decide +kernel
theorem dX8_as_60 : decode cX8_as 60 = .ok (.iconst (-1), 1) := by decide +kernel
theorem dX8_as_61 : decode cX8_as 61 = .ok (.ireturn, 1) := by decide +kernel
abbrev rm_X8_as : Room := { frames := 3, cells := 0, slots := 0, locals := 63 }
def P_X8_as (i1 : Int32) (i2 : Int32) (h : HP) (Q : Int32 → HP → Prop) : Prop := P_X8_isClassOfAir i1 h (fun (v_2 : Int32) (h_2 : HP) => ((v_2 = 0) → (Q (-101) h_2)) ∧ ((¬ v_2 = 0) → ((vp_in i1 4) ∧ (((¬ (h_2.1 (41 + 11 * i1.toNatClampNeg) 2) = 0) → (P_X8_within i2 0 2 h_2 (fun (v_26 : Int32) (h_26 : HP) => ((¬ v_26 = 0) → ((vp_in i1 4) ∧ (P_X1_is (41 + 11 * i1.toNatClampNeg) i2 h_26 (fun (v_42 : Int32) (h_42 : HP) => ((v_42 = 0) → (Q (-1) h_42)) ∧ ((¬ v_42 = 0) → ((vp_in i1 4) ∧ (Q (h_42.1 (41 + 11 * i1.toNatClampNeg) 3) h_42))))))) ∧ ((v_26 = 0) → (Q (-102) h_26))))) ∧ (((h_2.1 (41 + 11 * i1.toNatClampNeg) 2) = 0) → (Q (-101) h_2))))))
set_option maxHeartbeats 4000000 in
theorem t_X8_as {i1 : Int32} {i2 : Int32} {h : HP} {Q : Int32 → HP → Prop}  (hp : P_X8_as i1 i2 h Q) : MT yX8_as cX8_as 3 (some .int) rm_X8_as [.ref 0, .int i1, .int i2] gC SH (emb h) (pI Q) := by
  refine MT.of (by decide +kernel) (Nat.le_of_ble_eq_true rfl) (fun C hC hE => ?_)
  show SW C gC 0 [(0, .ref 0), (1, .int i1), (2, .int i2)] [] h
  unfold P_X8_as at hp
  refine x_aload_n hC dX8_as_0 (lm 0 rfl) ?_
  refine x_iload_n hC dX8_as_1 (lm 1 rfl) ?_
  refine s_callVi (avs := [.int i1]) (st := []) hC dX8_as_2 ml_8_131 mi_X8_isClassOfAir ty_0 rfl (t_X8_isClassOfAir  hp) (Nat.le_of_ble_eq_true rfl) ⟨rfl, rfl⟩ ⟨Nat.le_of_ble_eq_true rfl, Nat.le_of_ble_eq_true rfl⟩ (fun v_2 h_2 hp => ?_)
  refine x_if_eq (tgt := 20) hC dX8_as_5 (by decide) (fun hc => ?_) (fun hc => ?_)
  · have hp := hp.1 hc
    refine x_bipush hC dX8_as_20 bp_m101 ?_
    exact x_iret hC hE dX8_as_22 ⟨_, _, rfl, rfl, hp⟩
  · have hp := hp.2 hc
    refine x_aload_n hC dX8_as_8 (lm 0 rfl) ?_
    refine s_getR (r := 33) hC dX8_as_9 fk_8_47 ty_0 (fr_8_5 ty_0).1 ?_
    refine x_iload_n hC dX8_as_12 (lm 1 rfl) ?_
    obtain ⟨ho_13, hp⟩ := hp
    refine s_aald (r := 41 + 11 * i1.toNatClampNeg) (ci := 1) hC dX8_as_13 (by decide) (by decide) ((fr_8_5 ty_0).2) ho_13 (el_33 ho_13).1 ?_
    refine s_getZ hC dX8_as_14 fk_8_233 ((el_33 ho_13).2) ?_
    refine x_if_ne (tgt := 23) hC dX8_as_17 (by decide) (fun hc => ?_) (fun hc => ?_)
    · have hp := hp.1 hc
      refine x_iload_n hC dX8_as_23 (lm 2 rfl) ?_
      refine x_iconst hC dX8_as_24 ic_0 ?_
      refine x_iconst hC dX8_as_25 ic_2 ?_
      refine s_callSi (avs := [.int i2, .int 0, .int 2]) (st := []) hC dX8_as_26 ml_8_53 ms_X8_within rfl (t_X8_within  hp) (Nat.le_of_ble_eq_true rfl) ⟨rfl, rfl⟩ ⟨Nat.le_of_ble_eq_true rfl, Nat.le_of_ble_eq_true rfl⟩ (fun v_26 h_26 hp => ?_)
      refine x_if_ne (tgt := 35) hC dX8_as_29 (by decide) (fun hc => ?_) (fun hc => ?_)
      · have hp := hp.1 hc
        refine x_aload_n hC dX8_as_35 (lm 0 rfl) ?_
        refine s_getR (r := 33) hC dX8_as_36 fk_8_47 ty_0 (fr_8_5 ty_0).1 ?_
        refine x_iload_n hC dX8_as_39 (lm 1 rfl) ?_
        obtain ⟨ho_40, hp⟩ := hp
        refine s_aald (r := 41 + 11 * i1.toNatClampNeg) (ci := 1) hC dX8_as_40 (by decide) (by decide) ((fr_8_5 ty_0).2) ho_40 (el_33 ho_40).1 ?_
        refine x_iload_n hC dX8_as_41 (lm 2 rfl) ?_
        refine s_callVi (avs := [.int i2]) (st := []) hC dX8_as_42 ml_8_236 mi_X1_is ((el_33 ho_40).2) rfl (t_X1_is ((el_33 ho_40).2) hp) (Nat.le_of_ble_eq_true rfl) ⟨rfl, rfl⟩ ⟨Nat.le_of_ble_eq_true rfl, Nat.le_of_ble_eq_true rfl⟩ (fun v_42 h_42 hp => ?_)
        refine x_if_eq (tgt := 60) hC dX8_as_45 (by decide) (fun hc => ?_) (fun hc => ?_)
        · have hp := hp.1 hc
          refine x_iconst hC dX8_as_60 ic_m1 ?_
          exact x_iret hC hE dX8_as_61 ⟨_, _, rfl, rfl, hp⟩
        · have hp := hp.2 hc
          refine x_aload_n hC dX8_as_48 (lm 0 rfl) ?_
          refine s_getR (r := 33) hC dX8_as_49 fk_8_47 ty_0 (fr_8_5 ty_0).1 ?_
          refine x_iload_n hC dX8_as_52 (lm 1 rfl) ?_
          obtain ⟨ho_53, hp⟩ := hp
          refine s_aald (r := 41 + 11 * i1.toNatClampNeg) (ci := 1) hC dX8_as_53 (by decide) (by decide) ((fr_8_5 ty_0).2) ho_53 (el_33 ho_53).1 ?_
          refine s_getI hC dX8_as_54 fk_8_239 ((el_33 ho_53).2) ?_
          refine x_goto (tgt := 61) hC dX8_as_57 (by decide) ?_
          exact x_iret hC hE dX8_as_61 ⟨_, _, rfl, rfl, hp⟩
      · have hp := hp.2 hc
        refine x_bipush hC dX8_as_32 bp_m102 ?_
        exact x_iret hC hE dX8_as_34 ⟨_, _, rfl, rfl, hp⟩
    · have hp := hp.2 hc
      refine x_bipush hC dX8_as_20 bp_m101 ?_
      exact x_iret hC hE dX8_as_22 ⟨_, _, rfl, rfl, hp⟩
theorem dX8_released_0 : decode cX8_released 0 = .ok (.aload_n 0, 1) := by decide +kernel
theorem dX8_released_1 : decode cX8_released 1 = .ok (.iload_n 1, 1) := by decide +kernel
theorem dX8_released_2 : decode cX8_released 2 = .ok (.invokevirtual 131, 3) := by decide +kernel
theorem dX8_released_5 : decode cX8_released 5 = .ok (.ifCond .eq 19, 3) := by decide +kernel
theorem dX8_released_8 : decode cX8_released 8 = .ok (.aload_n 0, 1) := by decide +kernel
theorem dX8_released_9 : decode cX8_released 9 = .ok (.getfield 47, 3) := by decide +kernel
theorem dX8_released_12 : decode cX8_released 12 = .ok (.iload_n 1, 1) := by decide +kernel
theorem dX8_released_13 : decode cX8_released 13 = .ok (.aaload, 1) := by decide +kernel
theorem dX8_released_14 : decode cX8_released 14 = .ok (.getfield 240, 3) := by decide +kernel
theorem dX8_released_17 : decode cX8_released 17 = .ok (.iload_n 2, 1) := by decide +kernel
theorem dX8_released_18 : decode cX8_released 18 = .ok (.invokevirtual 244, 3) := by decide +kernel
theorem dX8_released_21 : decode cX8_released 21 = .ok (.ifCond .ne 6, 3) := by decide +kernel
theorem dX8_released_24 : decode cX8_released 24 = .ok (.bipush (-101), 2) := by decide +kernel
theorem dX8_released_26 : decode cX8_released 26 = .ok (.ireturn, 1) := by decide +kernel
theorem dX8_released_27 : decode cX8_released 27 = .ok (.aload_n 0, 1) := by decide +kernel
theorem dX8_released_28 : decode cX8_released 28 = .ok (.getfield 47, 3) := by decide +kernel
theorem dX8_released_31 : decode cX8_released 31 = .ok (.iload_n 1, 1) := by decide +kernel
theorem dX8_released_32 : decode cX8_released 32 = .ok (.aaload, 1) := by decide +kernel
theorem dX8_released_33 : decode cX8_released 33 = .ok (.getfield 240, 3) := by decide +kernel
theorem dX8_released_36 : decode cX8_released 36 = .ok (.iload_n 2, 1) := by decide +kernel
theorem dX8_released_37 : decode cX8_released 37 = .ok (.invokevirtual 247, 3) := by decide +kernel
theorem dX8_released_40 : decode cX8_released 40 = .ok (.ireturn, 1) := by decide +kernel
abbrev rm_X8_released : Room := { frames := 3, cells := 0, slots := 0, locals := 64 }
def P_X8_released (i1 : Int32) (i2 : Int32) (h : HP) (Q : Int32 → HP → Prop) : Prop := P_X8_isClassOfAir i1 h (fun (v_2 : Int32) (h_2 : HP) => ((v_2 = 0) → (Q (-101) h_2)) ∧ ((¬ v_2 = 0) → ((vp_in i1 4) ∧ (P_X4_has ((41 + 11 * i1.toNatClampNeg) + 1) i2 h_2 (fun (v_18 : Int32) (h_18 : HP) => ((¬ v_18 = 0) → ((vp_in i1 4) ∧ (P_X4_at ((41 + 11 * i1.toNatClampNeg) + 1) i2 h_18 (fun (v_37 : Int32) (h_37 : HP) => Q v_37 h_37)))) ∧ ((v_18 = 0) → (Q (-101) h_18)))))))
set_option maxHeartbeats 4000000 in
theorem t_X8_released {i1 : Int32} {i2 : Int32} {h : HP} {Q : Int32 → HP → Prop}  (hp : P_X8_released i1 i2 h Q) : MT yX8_released cX8_released 3 (some .int) rm_X8_released [.ref 0, .int i1, .int i2] gC SH (emb h) (pI Q) := by
  refine MT.of (by decide +kernel) (Nat.le_of_ble_eq_true rfl) (fun C hC hE => ?_)
  show SW C gC 0 [(0, .ref 0), (1, .int i1), (2, .int i2)] [] h
  unfold P_X8_released at hp
  refine x_aload_n hC dX8_released_0 (lm 0 rfl) ?_
  refine x_iload_n hC dX8_released_1 (lm 1 rfl) ?_
  refine s_callVi (avs := [.int i1]) (st := []) hC dX8_released_2 ml_8_131 mi_X8_isClassOfAir ty_0 rfl (t_X8_isClassOfAir  hp) (Nat.le_of_ble_eq_true rfl) ⟨rfl, rfl⟩ ⟨Nat.le_of_ble_eq_true rfl, Nat.le_of_ble_eq_true rfl⟩ (fun v_2 h_2 hp => ?_)
  refine x_if_eq (tgt := 24) hC dX8_released_5 (by decide) (fun hc => ?_) (fun hc => ?_)
  · have hp := hp.1 hc
    refine x_bipush hC dX8_released_24 bp_m101 ?_
    exact x_iret hC hE dX8_released_26 ⟨_, _, rfl, rfl, hp⟩
  · have hp := hp.2 hc
    refine x_aload_n hC dX8_released_8 (lm 0 rfl) ?_
    refine s_getR (r := 33) hC dX8_released_9 fk_8_47 ty_0 (fr_8_5 ty_0).1 ?_
    refine x_iload_n hC dX8_released_12 (lm 1 rfl) ?_
    obtain ⟨ho_13, hp⟩ := hp
    refine s_aald (r := 41 + 11 * i1.toNatClampNeg) (ci := 1) hC dX8_released_13 (by decide) (by decide) ((fr_8_5 ty_0).2) ho_13 (el_33 ho_13).1 ?_
    refine s_getR (r := (41 + 11 * i1.toNatClampNeg) + 1) hC dX8_released_14 fk_8_240 ((el_33 ho_13).2) (fr_1_1 ((el_33 ho_13).2)).1 ?_
    refine x_iload_n hC dX8_released_17 (lm 2 rfl) ?_
    refine s_callVi (avs := [.int i2]) (st := []) hC dX8_released_18 ml_8_244 mi_X4_has ((fr_1_1 ((el_33 ho_13).2)).2) rfl (t_X4_has ((fr_1_1 ((el_33 ho_13).2)).2) hp) (Nat.le_of_ble_eq_true rfl) ⟨rfl, rfl⟩ ⟨Nat.le_of_ble_eq_true rfl, Nat.le_of_ble_eq_true rfl⟩ (fun v_18 h_18 hp => ?_)
    refine x_if_ne (tgt := 27) hC dX8_released_21 (by decide) (fun hc => ?_) (fun hc => ?_)
    · have hp := hp.1 hc
      refine x_aload_n hC dX8_released_27 (lm 0 rfl) ?_
      refine s_getR (r := 33) hC dX8_released_28 fk_8_47 ty_0 (fr_8_5 ty_0).1 ?_
      refine x_iload_n hC dX8_released_31 (lm 1 rfl) ?_
      obtain ⟨ho_32, hp⟩ := hp
      refine s_aald (r := 41 + 11 * i1.toNatClampNeg) (ci := 1) hC dX8_released_32 (by decide) (by decide) ((fr_8_5 ty_0).2) ho_32 (el_33 ho_32).1 ?_
      refine s_getR (r := (41 + 11 * i1.toNatClampNeg) + 1) hC dX8_released_33 fk_8_240 ((el_33 ho_32).2) (fr_1_1 ((el_33 ho_32).2)).1 ?_
      refine x_iload_n hC dX8_released_36 (lm 2 rfl) ?_
      refine s_callVi (avs := [.int i2]) (st := []) hC dX8_released_37 ml_8_247 mi_X4_at ((fr_1_1 ((el_33 ho_32).2)).2) rfl (t_X4_at ((fr_1_1 ((el_33 ho_32).2)).2) hp) (Nat.le_of_ble_eq_true rfl) ⟨rfl, rfl⟩ ⟨Nat.le_of_ble_eq_true rfl, Nat.le_of_ble_eq_true rfl⟩ (fun v_37 h_37 hp => ?_)
      exact x_iret hC hE dX8_released_40 ⟨_, _, rfl, rfl, hp⟩
    · have hp := hp.2 hc
      refine x_bipush hC dX8_released_24 bp_m101 ?_
      exact x_iret hC hE dX8_released_26 ⟨_, _, rfl, rfl, hp⟩
theorem dX8_under_0 : decode cX8_under 0 = .ok (.aload_n 0, 1) := by decide +kernel
theorem dX8_under_1 : decode cX8_under 1 = .ok (.getfield 35, 3) := by decide +kernel
theorem dX8_under_4 : decode cX8_under 4 = .ok (.iload_n 1, 1) := by decide +kernel
theorem dX8_under_5 : decode cX8_under 5 = .ok (.invokevirtual 188, 3) := by decide +kernel
theorem dX8_under_8 : decode cX8_under 8 = .ok (.ifCond .ne 6, 3) := by decide +kernel
theorem dX8_under_11 : decode cX8_under 11 = .ok (.bipush (-101), 2) := by decide +kernel
theorem dX8_under_13 : decode cX8_under 13 = .ok (.ireturn, 1) := by decide +kernel
theorem dX8_under_14 : decode cX8_under 14 = .ok (.iload_n 2, 1) := by decide +kernel
theorem dX8_under_15 : decode cX8_under 15 = .ok (.iconst 0, 1) := by decide +kernel
theorem dX8_under_16 : decode cX8_under 16 = .ok (.iconst 5, 1) := by decide +kernel
theorem dX8_under_17 : decode cX8_under 17 = .ok (.invokestatic 53, 3) := by decide +kernel
theorem dX8_under_20 : decode cX8_under 20 = .ok (.ifCond .ne 6, 3) := by decide +kernel
theorem dX8_under_23 : decode cX8_under 23 = .ok (.bipush (-102), 2) := by decide +kernel
theorem dX8_under_25 : decode cX8_under 25 = .ok (.ireturn, 1) := by decide +kernel
theorem dX8_under_26 : decode cX8_under 26 = .ok (.aload_n 0, 1) := by decide +kernel
theorem dX8_under_27 : decode cX8_under 27 = .ok (.getfield 35, 3) := by decide +kernel
theorem dX8_under_30 : decode cX8_under 30 = .ok (.iload_n 1, 1) := by decide +kernel
theorem dX8_under_31 : decode cX8_under 31 = .ok (.invokevirtual 250, 3) := by decide +kernel
theorem dX8_under_34 : decode cX8_under 34 = .ok (.iload_n 2, 1) := by decide +kernel
theorem dX8_under_35 : decode cX8_under 35 = .ok (.invokevirtual 252, 3) := by decide +kernel
theorem dX8_under_38 : decode cX8_under 38 = .ok (.ireturn, 1) := by decide +kernel
abbrev rm_X8_under : Room := { frames := 3, cells := 0, slots := 0, locals := 64 }
def P_X8_under (i1 : Int32) (i2 : Int32) (h : HP) (Q : Int32 → HP → Prop) : Prop := P_X6_has i1 h (fun (v_5 : Int32) (h_5 : HP) => ((¬ v_5 = 0) → (P_X8_within i2 0 5 h_5 (fun (v_17 : Int32) (h_17 : HP) => ((¬ v_17 = 0) → (P_X6_at i1 h_17 (fun (v_31 : Nat) (h_31 : HP) => (Ty gC v_31 2 0) ∧ (P_X2_tell v_31 i2 h_31 (fun (v_35 : Int32) (h_35 : HP) => Q v_35 h_35))))) ∧ ((v_17 = 0) → (Q (-102) h_17))))) ∧ ((v_5 = 0) → (Q (-101) h_5)))
set_option maxHeartbeats 4000000 in
theorem t_X8_under {i1 : Int32} {i2 : Int32} {h : HP} {Q : Int32 → HP → Prop}  (hp : P_X8_under i1 i2 h Q) : MT yX8_under cX8_under 3 (some .int) rm_X8_under [.ref 0, .int i1, .int i2] gC SH (emb h) (pI Q) := by
  refine MT.of (by decide +kernel) (Nat.le_of_ble_eq_true rfl) (fun C hC hE => ?_)
  show SW C gC 0 [(0, .ref 0), (1, .int i1), (2, .int i2)] [] h
  unfold P_X8_under at hp
  refine x_aload_n hC dX8_under_0 (lm 0 rfl) ?_
  refine s_getR (r := 5) hC dX8_under_1 fk_8_35 ty_0 (fr_8_3 ty_0).1 ?_
  refine x_iload_n hC dX8_under_4 (lm 1 rfl) ?_
  refine s_callVi (avs := [.int i1]) (st := []) hC dX8_under_5 ml_8_188 mi_X6_has ty_5 rfl (t_X6_has  hp) (Nat.le_of_ble_eq_true rfl) ⟨rfl, rfl⟩ ⟨Nat.le_of_ble_eq_true rfl, Nat.le_of_ble_eq_true rfl⟩ (fun v_5 h_5 hp => ?_)
  refine x_if_ne (tgt := 14) hC dX8_under_8 (by decide) (fun hc => ?_) (fun hc => ?_)
  · have hp := hp.1 hc
    refine x_iload_n hC dX8_under_14 (lm 2 rfl) ?_
    refine x_iconst hC dX8_under_15 ic_0 ?_
    refine x_iconst hC dX8_under_16 ic_5 ?_
    refine s_callSi (avs := [.int i2, .int 0, .int 5]) (st := []) hC dX8_under_17 ml_8_53 ms_X8_within rfl (t_X8_within  hp) (Nat.le_of_ble_eq_true rfl) ⟨rfl, rfl⟩ ⟨Nat.le_of_ble_eq_true rfl, Nat.le_of_ble_eq_true rfl⟩ (fun v_17 h_17 hp => ?_)
    refine x_if_ne (tgt := 26) hC dX8_under_20 (by decide) (fun hc => ?_) (fun hc => ?_)
    · have hp := hp.1 hc
      refine x_aload_n hC dX8_under_26 (lm 0 rfl) ?_
      refine s_getR (r := 5) hC dX8_under_27 fk_8_35 ty_0 (fr_8_3 ty_0).1 ?_
      refine x_iload_n hC dX8_under_30 (lm 1 rfl) ?_
      refine s_callVr (avs := [.int i1]) (st := []) hC dX8_under_31 ml_8_250 mi_X6_at ty_5 rfl (t_X6_at  hp) (Nat.le_of_ble_eq_true rfl) ⟨rfl, rfl⟩ ⟨Nat.le_of_ble_eq_true rfl, Nat.le_of_ble_eq_true rfl⟩ (fun v_31 h_31 hp => ?_)
      obtain ⟨ht_31, hp⟩ := hp
      refine x_iload_n hC dX8_under_34 (lm 2 rfl) ?_
      refine s_callVi (avs := [.int i2]) (st := []) hC dX8_under_35 ml_8_252 mi_X2_tell ht_31 rfl (t_X2_tell ht_31 hp) (Nat.le_of_ble_eq_true rfl) ⟨rfl, rfl⟩ ⟨Nat.le_of_ble_eq_true rfl, Nat.le_of_ble_eq_true rfl⟩ (fun v_35 h_35 hp => ?_)
      exact x_iret hC hE dX8_under_38 ⟨_, _, rfl, rfl, hp⟩
    · have hp := hp.2 hc
      refine x_bipush hC dX8_under_23 bp_m102 ?_
      exact x_iret hC hE dX8_under_25 ⟨_, _, rfl, rfl, hp⟩
  · have hp := hp.2 hc
    refine x_bipush hC dX8_under_11 bp_m101 ?_
    exact x_iret hC hE dX8_under_13 ⟨_, _, rfl, rfl, hp⟩
theorem dX8_frame_0 : decode cX8_frame 0 = .ok (.aload_n 0, 1) := by decide +kernel
theorem dX8_frame_1 : decode cX8_frame 1 = .ok (.getfield 35, 3) := by decide +kernel
theorem dX8_frame_4 : decode cX8_frame 4 = .ok (.iload_n 1, 1) := by decide +kernel
theorem dX8_frame_5 : decode cX8_frame 5 = .ok (.invokevirtual 188, 3) := by decide +kernel
theorem dX8_frame_8 : decode cX8_frame 8 = .ok (.ifCond .eq 18, 3) := by decide +kernel
theorem dX8_frame_11 : decode cX8_frame 11 = .ok (.aload_n 0, 1) := by decide +kernel
theorem dX8_frame_12 : decode cX8_frame 12 = .ok (.getfield 35, 3) := by decide +kernel
theorem dX8_frame_15 : decode cX8_frame 15 = .ok (.iload_n 1, 1) := by decide +kernel
theorem dX8_frame_16 : decode cX8_frame 16 = .ok (.invokevirtual 250, 3) := by decide +kernel
theorem dX8_frame_19 : decode cX8_frame 19 = .ok (.iload_n 2, 1) := by decide +kernel
theorem dX8_frame_20 : decode cX8_frame 20 = .ok (.invokevirtual 253, 3) := by decide +kernel
theorem dX8_frame_23 : decode cX8_frame 23 = .ok (.ifCond .ne 6, 3) := by decide +kernel
theorem dX8_frame_26 : decode cX8_frame 26 = .ok (.bipush (-101), 2) := by decide +kernel
theorem dX8_frame_28 : decode cX8_frame 28 = .ok (.ireturn, 1) := by decide +kernel
theorem dX8_frame_29 : decode cX8_frame 29 = .ok (.iload_n 3, 1) := by decide +kernel
theorem dX8_frame_30 : decode cX8_frame 30 = .ok (.iconst 0, 1) := by decide +kernel
theorem dX8_frame_31 : decode cX8_frame 31 = .ok (.iconst 3, 1) := by decide +kernel
theorem dX8_frame_32 : decode cX8_frame 32 = .ok (.invokestatic 53, 3) := by decide +kernel
theorem dX8_frame_35 : decode cX8_frame 35 = .ok (.ifCond .ne 6, 3) := by decide +kernel
theorem dX8_frame_38 : decode cX8_frame 38 = .ok (.bipush (-102), 2) := by decide +kernel
theorem dX8_frame_40 : decode cX8_frame 40 = .ok (.ireturn, 1) := by decide +kernel
theorem dX8_frame_41 : decode cX8_frame 41 = .ok (.aload_n 0, 1) := by decide +kernel
theorem dX8_frame_42 : decode cX8_frame 42 = .ok (.getfield 35, 3) := by decide +kernel
theorem dX8_frame_45 : decode cX8_frame 45 = .ok (.iload_n 1, 1) := by decide +kernel
theorem dX8_frame_46 : decode cX8_frame 46 = .ok (.invokevirtual 250, 3) := by decide +kernel
theorem dX8_frame_49 : decode cX8_frame 49 = .ok (.iload_n 2, 1) := by decide +kernel
theorem dX8_frame_50 : decode cX8_frame 50 = .ok (.iload_n 3, 1) := by decide +kernel
theorem dX8_frame_51 : decode cX8_frame 51 = .ok (.invokevirtual 256, 3) := by decide +kernel
theorem dX8_frame_54 : decode cX8_frame 54 = .ok (.ireturn, 1) := by decide +kernel
abbrev rm_X8_frame : Room := { frames := 3, cells := 0, slots := 0, locals := 65 }
def P_X8_frame (i1 : Int32) (i2 : Int32) (i3 : Int32) (h : HP) (Q : Int32 → HP → Prop) : Prop := P_X6_has i1 h (fun (v_5 : Int32) (h_5 : HP) => ((v_5 = 0) → (Q (-101) h_5)) ∧ ((¬ v_5 = 0) → (P_X6_at i1 h_5 (fun (v_16 : Nat) (h_16 : HP) => (Ty gC v_16 2 0) ∧ (P_X2_hasFrame v_16 i2 h_16 (fun (v_20 : Int32) (h_20 : HP) => ((¬ v_20 = 0) → (P_X8_within i3 0 3 h_20 (fun (v_32 : Int32) (h_32 : HP) => ((¬ v_32 = 0) → (P_X6_at i1 h_32 (fun (v_46 : Nat) (h_46 : HP) => (Ty gC v_46 2 0) ∧ (P_X2_tellFrame v_46 i2 i3 h_46 (fun (v_51 : Int32) (h_51 : HP) => Q v_51 h_51))))) ∧ ((v_32 = 0) → (Q (-102) h_32))))) ∧ ((v_20 = 0) → (Q (-101) h_20))))))))
set_option maxHeartbeats 4000000 in
theorem t_X8_frame {i1 : Int32} {i2 : Int32} {i3 : Int32} {h : HP} {Q : Int32 → HP → Prop}  (hp : P_X8_frame i1 i2 i3 h Q) : MT yX8_frame cX8_frame 4 (some .int) rm_X8_frame [.ref 0, .int i1, .int i2, .int i3] gC SH (emb h) (pI Q) := by
  refine MT.of (by decide +kernel) (Nat.le_of_ble_eq_true rfl) (fun C hC hE => ?_)
  show SW C gC 0 [(0, .ref 0), (1, .int i1), (2, .int i2), (3, .int i3)] [] h
  unfold P_X8_frame at hp
  refine x_aload_n hC dX8_frame_0 (lm 0 rfl) ?_
  refine s_getR (r := 5) hC dX8_frame_1 fk_8_35 ty_0 (fr_8_3 ty_0).1 ?_
  refine x_iload_n hC dX8_frame_4 (lm 1 rfl) ?_
  refine s_callVi (avs := [.int i1]) (st := []) hC dX8_frame_5 ml_8_188 mi_X6_has ty_5 rfl (t_X6_has  hp) (Nat.le_of_ble_eq_true rfl) ⟨rfl, rfl⟩ ⟨Nat.le_of_ble_eq_true rfl, Nat.le_of_ble_eq_true rfl⟩ (fun v_5 h_5 hp => ?_)
  refine x_if_eq (tgt := 26) hC dX8_frame_8 (by decide) (fun hc => ?_) (fun hc => ?_)
  · have hp := hp.1 hc
    refine x_bipush hC dX8_frame_26 bp_m101 ?_
    exact x_iret hC hE dX8_frame_28 ⟨_, _, rfl, rfl, hp⟩
  · have hp := hp.2 hc
    refine x_aload_n hC dX8_frame_11 (lm 0 rfl) ?_
    refine s_getR (r := 5) hC dX8_frame_12 fk_8_35 ty_0 (fr_8_3 ty_0).1 ?_
    refine x_iload_n hC dX8_frame_15 (lm 1 rfl) ?_
    refine s_callVr (avs := [.int i1]) (st := []) hC dX8_frame_16 ml_8_250 mi_X6_at ty_5 rfl (t_X6_at  hp) (Nat.le_of_ble_eq_true rfl) ⟨rfl, rfl⟩ ⟨Nat.le_of_ble_eq_true rfl, Nat.le_of_ble_eq_true rfl⟩ (fun v_16 h_16 hp => ?_)
    obtain ⟨ht_16, hp⟩ := hp
    refine x_iload_n hC dX8_frame_19 (lm 2 rfl) ?_
    refine s_callVi (avs := [.int i2]) (st := []) hC dX8_frame_20 ml_8_253 mi_X2_hasFrame ht_16 rfl (t_X2_hasFrame ht_16 hp) (Nat.le_of_ble_eq_true rfl) ⟨rfl, rfl⟩ ⟨Nat.le_of_ble_eq_true rfl, Nat.le_of_ble_eq_true rfl⟩ (fun v_20 h_20 hp => ?_)
    refine x_if_ne (tgt := 29) hC dX8_frame_23 (by decide) (fun hc => ?_) (fun hc => ?_)
    · have hp := hp.1 hc
      refine x_iload_n hC dX8_frame_29 (lm 3 rfl) ?_
      refine x_iconst hC dX8_frame_30 ic_0 ?_
      refine x_iconst hC dX8_frame_31 ic_3 ?_
      refine s_callSi (avs := [.int i3, .int 0, .int 3]) (st := []) hC dX8_frame_32 ml_8_53 ms_X8_within rfl (t_X8_within  hp) (Nat.le_of_ble_eq_true rfl) ⟨rfl, rfl⟩ ⟨Nat.le_of_ble_eq_true rfl, Nat.le_of_ble_eq_true rfl⟩ (fun v_32 h_32 hp => ?_)
      refine x_if_ne (tgt := 41) hC dX8_frame_35 (by decide) (fun hc => ?_) (fun hc => ?_)
      · have hp := hp.1 hc
        refine x_aload_n hC dX8_frame_41 (lm 0 rfl) ?_
        refine s_getR (r := 5) hC dX8_frame_42 fk_8_35 ty_0 (fr_8_3 ty_0).1 ?_
        refine x_iload_n hC dX8_frame_45 (lm 1 rfl) ?_
        refine s_callVr (avs := [.int i1]) (st := []) hC dX8_frame_46 ml_8_250 mi_X6_at ty_5 rfl (t_X6_at  hp) (Nat.le_of_ble_eq_true rfl) ⟨rfl, rfl⟩ ⟨Nat.le_of_ble_eq_true rfl, Nat.le_of_ble_eq_true rfl⟩ (fun v_46 h_46 hp => ?_)
        obtain ⟨ht_46, hp⟩ := hp
        refine x_iload_n hC dX8_frame_49 (lm 2 rfl) ?_
        refine x_iload_n hC dX8_frame_50 (lm 3 rfl) ?_
        refine s_callVi (avs := [.int i2, .int i3]) (st := []) hC dX8_frame_51 ml_8_256 mi_X2_tellFrame ht_46 rfl (t_X2_tellFrame ht_46 hp) (Nat.le_of_ble_eq_true rfl) ⟨rfl, rfl⟩ ⟨Nat.le_of_ble_eq_true rfl, Nat.le_of_ble_eq_true rfl⟩ (fun v_51 h_51 hp => ?_)
        exact x_iret hC hE dX8_frame_54 ⟨_, _, rfl, rfl, hp⟩
      · have hp := hp.2 hc
        refine x_bipush hC dX8_frame_38 bp_m102 ?_
        exact x_iret hC hE dX8_frame_40 ⟨_, _, rfl, rfl, hp⟩
    · have hp := hp.2 hc
      refine x_bipush hC dX8_frame_26 bp_m101 ?_
      exact x_iret hC hE dX8_frame_28 ⟨_, _, rfl, rfl, hp⟩
theorem dX8_count_0 : decode cX8_count 0 = .ok (.iload_n 1, 1) := by decide +kernel
theorem dX8_count_1 : decode cX8_count 1 = .ok (.tableswitch 135 0 9 #[55, 63, 71, 79, 87, 95, 103, 111, 119, 127], 55) := by decide +kernel
theorem dX8_count_56 : decode cX8_count 56 = .ok (.aload_n 0, 1) := by decide +kernel
theorem dX8_count_57 : decode cX8_count 57 = .ok (.getfield 26, 3) := by decide +kernel
theorem dX8_count_60 : decode cX8_count 60 = .ok (.getfield 259, 3) := by decide +kernel
theorem dX8_count_63 : decode cX8_count 63 = .ok (.ireturn, 1) := by decide +kernel
theorem dX8_count_64 : decode cX8_count 64 = .ok (.aload_n 0, 1) := by decide +kernel
theorem dX8_count_65 : decode cX8_count 65 = .ok (.getfield 26, 3) := by decide +kernel
theorem dX8_count_68 : decode cX8_count 68 = .ok (.getfield 201, 3) := by decide +kernel
theorem dX8_count_71 : decode cX8_count 71 = .ok (.ireturn, 1) := by decide +kernel
theorem dX8_count_72 : decode cX8_count 72 = .ok (.aload_n 0, 1) := by decide +kernel
theorem dX8_count_73 : decode cX8_count 73 = .ok (.getfield 26, 3) := by decide +kernel
theorem dX8_count_76 : decode cX8_count 76 = .ok (.getfield 179, 3) := by decide +kernel
theorem dX8_count_79 : decode cX8_count 79 = .ok (.ireturn, 1) := by decide +kernel
theorem dX8_count_80 : decode cX8_count 80 = .ok (.aload_n 0, 1) := by decide +kernel
theorem dX8_count_81 : decode cX8_count 81 = .ok (.getfield 26, 3) := by decide +kernel
theorem dX8_count_84 : decode cX8_count 84 = .ok (.getfield 262, 3) := by decide +kernel
theorem dX8_count_87 : decode cX8_count 87 = .ok (.ireturn, 1) := by decide +kernel
theorem dX8_count_88 : decode cX8_count 88 = .ok (.aload_n 0, 1) := by decide +kernel
theorem dX8_count_89 : decode cX8_count 89 = .ok (.getfield 26, 3) := by decide +kernel
theorem dX8_count_92 : decode cX8_count 92 = .ok (.getfield 265, 3) := by decide +kernel
theorem dX8_count_95 : decode cX8_count 95 = .ok (.ireturn, 1) := by decide +kernel
theorem dX8_count_96 : decode cX8_count 96 = .ok (.aload_n 0, 1) := by decide +kernel
theorem dX8_count_97 : decode cX8_count 97 = .ok (.getfield 26, 3) := by decide +kernel
theorem dX8_count_100 : decode cX8_count 100 = .ok (.getfield 268, 3) := by decide +kernel
theorem dX8_count_103 : decode cX8_count 103 = .ok (.ireturn, 1) := by decide +kernel
theorem dX8_count_104 : decode cX8_count 104 = .ok (.aload_n 0, 1) := by decide +kernel
theorem dX8_count_105 : decode cX8_count 105 = .ok (.getfield 26, 3) := by decide +kernel
theorem dX8_count_108 : decode cX8_count 108 = .ok (.getfield 271, 3) := by decide +kernel
theorem dX8_count_111 : decode cX8_count 111 = .ok (.ireturn, 1) := by decide +kernel
theorem dX8_count_112 : decode cX8_count 112 = .ok (.aload_n 0, 1) := by decide +kernel
theorem dX8_count_113 : decode cX8_count 113 = .ok (.getfield 35, 3) := by decide +kernel
theorem dX8_count_116 : decode cX8_count 116 = .ok (.getfield 130, 3) := by decide +kernel
theorem dX8_count_119 : decode cX8_count 119 = .ok (.ireturn, 1) := by decide +kernel
theorem dX8_count_120 : decode cX8_count 120 = .ok (.aload_n 0, 1) := by decide +kernel
theorem dX8_count_121 : decode cX8_count 121 = .ok (.getfield 10, 3) := by decide +kernel
theorem dX8_count_124 : decode cX8_count 124 = .ok (.getfield 61, 3) := by decide +kernel
theorem dX8_count_127 : decode cX8_count 127 = .ok (.ireturn, 1) := by decide +kernel
theorem dX8_count_128 : decode cX8_count 128 = .ok (.aload_n 0, 1) := by decide +kernel
theorem dX8_count_129 : decode cX8_count 129 = .ok (.getfield 26, 3) := by decide +kernel
theorem dX8_count_132 : decode cX8_count 132 = .ok (.getfield 83, 3) := by decide +kernel
theorem dX8_count_135 : decode cX8_count 135 = .ok (.ireturn, 1) := by decide +kernel
theorem dX8_count_136 : decode cX8_count 136 = .ok (.bipush (-102), 2) := by decide +kernel
theorem dX8_count_138 : decode cX8_count 138 = .ok (.ireturn, 1) := by decide +kernel
abbrev rm_X8_count : Room := { frames := 0, cells := 0, slots := 0, locals := 0 }
def P_X8_count (i1 : Int32) (h : HP) (Q : Int32 → HP → Prop) : Prop := (i1.toInt = 0 → (Q (h.1 4 0) h)) ∧ (i1.toInt = 1 → (Q (h.1 4 1) h)) ∧ (i1.toInt = 2 → (Q (h.1 4 2) h)) ∧ (i1.toInt = 3 → (Q (h.1 4 3) h)) ∧ (i1.toInt = 4 → (Q (h.1 4 4) h)) ∧ (i1.toInt = 5 → (Q (h.1 4 5) h)) ∧ (i1.toInt = 6 → (Q (h.1 4 6) h)) ∧ (i1.toInt = 7 → (Q (h.1 5 2) h)) ∧ (i1.toInt = 8 → (Q (h.1 1 1) h)) ∧ (i1.toInt = 9 → (Q (h.1 4 7) h)) ∧ ((i1.toInt < 0 ∨ 9 < i1.toInt) → (Q (-102) h))
set_option maxHeartbeats 4000000 in
theorem t_X8_count {i1 : Int32} {h : HP} {Q : Int32 → HP → Prop}  (hp : P_X8_count i1 h Q) : MT yX8_count cX8_count 2 (some .int) rm_X8_count [.ref 0, .int i1] gC SH (emb h) (pI Q) := by
  refine MT.of (by decide +kernel) (Nat.le_of_ble_eq_true rfl) (fun C hC hE => ?_)
  show SW C gC 0 [(0, .ref 0), (1, .int i1)] [] h
  unfold P_X8_count at hp
  refine x_iload_n hC dX8_count_0 (lm 1 rfl) ?_
  refine x_tsw (tgt := 136) hC dX8_count_1 [56, 64, 72, 80, 88, 96, 104, 112, 120, 128] (by decide) (by decide) (by decide) (fun hc => ?_) (fun i t hi hx => ?_)
  · have hp := hp.2.2.2.2.2.2.2.2.2.2 hc
    refine x_bipush hC dX8_count_136 bp_m102 ?_
    exact x_iret hC hE dX8_count_138 ⟨_, _, rfl, rfl, hp⟩
  · match i, hi, hx with
    | 0, hi, hx =>
      cases hi
      have hp := hp.1 hx
      refine x_aload_n hC dX8_count_56 (lm 0 rfl) ?_
      refine s_getR (r := 4) hC dX8_count_57 fk_8_26 ty_0 (fr_8_2 ty_0).1 ?_
      refine s_getI hC dX8_count_60 fk_8_259 ty_4 ?_
      exact x_iret hC hE dX8_count_63 ⟨_, _, rfl, rfl, hp⟩
    | 1, hi, hx =>
      cases hi
      have hp := hp.2.1 hx
      refine x_aload_n hC dX8_count_64 (lm 0 rfl) ?_
      refine s_getR (r := 4) hC dX8_count_65 fk_8_26 ty_0 (fr_8_2 ty_0).1 ?_
      refine s_getI hC dX8_count_68 fk_8_201 ty_4 ?_
      exact x_iret hC hE dX8_count_71 ⟨_, _, rfl, rfl, hp⟩
    | 2, hi, hx =>
      cases hi
      have hp := hp.2.2.1 hx
      refine x_aload_n hC dX8_count_72 (lm 0 rfl) ?_
      refine s_getR (r := 4) hC dX8_count_73 fk_8_26 ty_0 (fr_8_2 ty_0).1 ?_
      refine s_getI hC dX8_count_76 fk_8_179 ty_4 ?_
      exact x_iret hC hE dX8_count_79 ⟨_, _, rfl, rfl, hp⟩
    | 3, hi, hx =>
      cases hi
      have hp := hp.2.2.2.1 hx
      refine x_aload_n hC dX8_count_80 (lm 0 rfl) ?_
      refine s_getR (r := 4) hC dX8_count_81 fk_8_26 ty_0 (fr_8_2 ty_0).1 ?_
      refine s_getI hC dX8_count_84 fk_8_262 ty_4 ?_
      exact x_iret hC hE dX8_count_87 ⟨_, _, rfl, rfl, hp⟩
    | 4, hi, hx =>
      cases hi
      have hp := hp.2.2.2.2.1 hx
      refine x_aload_n hC dX8_count_88 (lm 0 rfl) ?_
      refine s_getR (r := 4) hC dX8_count_89 fk_8_26 ty_0 (fr_8_2 ty_0).1 ?_
      refine s_getI hC dX8_count_92 fk_8_265 ty_4 ?_
      exact x_iret hC hE dX8_count_95 ⟨_, _, rfl, rfl, hp⟩
    | 5, hi, hx =>
      cases hi
      have hp := hp.2.2.2.2.2.1 hx
      refine x_aload_n hC dX8_count_96 (lm 0 rfl) ?_
      refine s_getR (r := 4) hC dX8_count_97 fk_8_26 ty_0 (fr_8_2 ty_0).1 ?_
      refine s_getI hC dX8_count_100 fk_8_268 ty_4 ?_
      exact x_iret hC hE dX8_count_103 ⟨_, _, rfl, rfl, hp⟩
    | 6, hi, hx =>
      cases hi
      have hp := hp.2.2.2.2.2.2.1 hx
      refine x_aload_n hC dX8_count_104 (lm 0 rfl) ?_
      refine s_getR (r := 4) hC dX8_count_105 fk_8_26 ty_0 (fr_8_2 ty_0).1 ?_
      refine s_getI hC dX8_count_108 fk_8_271 ty_4 ?_
      exact x_iret hC hE dX8_count_111 ⟨_, _, rfl, rfl, hp⟩
    | 7, hi, hx =>
      cases hi
      have hp := hp.2.2.2.2.2.2.2.1 hx
      refine x_aload_n hC dX8_count_112 (lm 0 rfl) ?_
      refine s_getR (r := 5) hC dX8_count_113 fk_8_35 ty_0 (fr_8_3 ty_0).1 ?_
      refine s_getI hC dX8_count_116 fk_8_130 ty_5 ?_
      exact x_iret hC hE dX8_count_119 ⟨_, _, rfl, rfl, hp⟩
    | 8, hi, hx =>
      cases hi
      have hp := hp.2.2.2.2.2.2.2.2.1 hx
      refine x_aload_n hC dX8_count_120 (lm 0 rfl) ?_
      refine s_getR (r := 1) hC dX8_count_121 fk_8_10 ty_0 (fr_8_0 ty_0).1 ?_
      refine s_getI hC dX8_count_124 fk_8_61 ty_1 ?_
      exact x_iret hC hE dX8_count_127 ⟨_, _, rfl, rfl, hp⟩
    | 9, hi, hx =>
      cases hi
      have hp := hp.2.2.2.2.2.2.2.2.2.1 hx
      refine x_aload_n hC dX8_count_128 (lm 0 rfl) ?_
      refine s_getR (r := 4) hC dX8_count_129 fk_8_26 ty_0 (fr_8_2 ty_0).1 ?_
      refine s_getI hC dX8_count_132 fk_8_83 ty_4 ?_
      exact x_iret hC hE dX8_count_135 ⟨_, _, rfl, rfl, hp⟩
    | i + 10, hi, hx => exact absurd hi (by simp)
theorem dX8_mix_0 : decode cX8_mix 0 = .ok (.ldc2_w 296, 3) := by decide +kernel
theorem dX8_mix_3 : decode cX8_mix 3 = .ok (.lload_n 0, 1) := by decide +kernel
theorem dX8_mix_4 : decode cX8_mix 4 = .ok (.lmul, 1) := by decide +kernel
theorem dX8_mix_5 : decode cX8_mix 5 = .ok (.iload_n 2, 1) := by decide +kernel
theorem dX8_mix_6 : decode cX8_mix 6 = .ok (.i2l, 1) := by decide +kernel
theorem dX8_mix_7 : decode cX8_mix 7 = .ok (.ladd, 1) := by decide +kernel
theorem dX8_mix_8 : decode cX8_mix 8 = .ok (.lreturn, 1) := by decide +kernel
abbrev rm_X8_mix : Room := { frames := 0, cells := 0, slots := 0, locals := 0 }
def P_X8_mix (l0 : Int64) (i2 : Int32) (h : HP) (Q : Int64 → HP → Prop) : Prop := Q (((31 : Int64) * l0) + i2.toInt64) h
set_option maxHeartbeats 4000000 in
theorem t_X8_mix {l0 : Int64} {i2 : Int32} {h : HP} {Q : Int64 → HP → Prop}  (hp : P_X8_mix l0 i2 h Q) : MT yX8_mix cX8_mix 3 (some .long) rm_X8_mix [.long l0, .int i2] gC SH (emb h) (pL Q) := by
  refine MT.of (by decide +kernel) (Nat.le_of_ble_eq_true rfl) (fun C hC hE => ?_)
  show SW C gC 0 [(0, .long l0), (2, .int i2)] [] h
  unfold P_X8_mix at hp
  refine x_ldc2 hC dX8_mix_0 lc_8_296 ?_
  refine x_lload_n hC dX8_mix_3 (lm 0 rfl) ?_
  refine x_lmul hC dX8_mix_4 ?_
  refine x_iload_n hC dX8_mix_5 (lm 1 rfl) ?_
  refine x_i2l hC dX8_mix_6 ?_
  refine x_ladd hC dX8_mix_7 ?_
  exact x_lret hC hE dX8_mix_8 ⟨_, _, rfl, rfl, hp⟩
theorem dX8_digestOfNearEnd_0 : decode cX8_digestOfNearEnd 0 = .ok (.lload_n 0, 1) := by decide +kernel
theorem dX8_digestOfNearEnd_1 : decode cX8_digestOfNearEnd 1 = .ok (.lstore_n 3, 1) := by decide +kernel
theorem dX8_digestOfNearEnd_2 : decode cX8_digestOfNearEnd 2 = .ok (.iconst 0, 1) := by decide +kernel
theorem dX8_digestOfNearEnd_3 : decode cX8_digestOfNearEnd 3 = .ok (.istore 5, 2) := by decide +kernel
theorem dX8_digestOfNearEnd_5 : decode cX8_digestOfNearEnd 5 = .ok (.iload 5, 2) := by decide +kernel
theorem dX8_digestOfNearEnd_7 : decode cX8_digestOfNearEnd 7 = .ok (.bipush 10, 2) := by decide +kernel
theorem dX8_digestOfNearEnd_9 : decode cX8_digestOfNearEnd 9 = .ok (.if_icmp .ge 20, 3) := by decide +kernel
theorem dX8_digestOfNearEnd_12 : decode cX8_digestOfNearEnd 12 = .ok (.lload_n 3, 1) := by decide +kernel
theorem dX8_digestOfNearEnd_13 : decode cX8_digestOfNearEnd 13 = .ok (.aload_n 2, 1) := by decide +kernel
theorem dX8_digestOfNearEnd_14 : decode cX8_digestOfNearEnd 14 = .ok (.iload 5, 2) := by decide +kernel
theorem dX8_digestOfNearEnd_16 : decode cX8_digestOfNearEnd 16 = .ok (.invokevirtual 221, 3) := by decide +kernel
theorem dX8_digestOfNearEnd_19 : decode cX8_digestOfNearEnd 19 = .ok (.invokestatic 276, 3) := by decide +kernel
theorem dX8_digestOfNearEnd_22 : decode cX8_digestOfNearEnd 22 = .ok (.lstore_n 3, 1) := by decide +kernel
theorem dX8_digestOfNearEnd_23 : decode cX8_digestOfNearEnd 23 = .ok (.iinc 5 1, 3) := by decide +kernel
theorem dX8_digestOfNearEnd_26 : decode cX8_digestOfNearEnd 26 = .ok (.goto (-21), 3) := by decide +kernel
theorem dX8_digestOfNearEnd_29 : decode cX8_digestOfNearEnd 29 = .ok (.iconst 0, 1) := by decide +kernel
theorem dX8_digestOfNearEnd_30 : decode cX8_digestOfNearEnd 30 = .ok (.istore 5, 2) := by decide +kernel
theorem dX8_digestOfNearEnd_32 : decode cX8_digestOfNearEnd 32 = .ok (.iload 5, 2) := by decide +kernel
theorem dX8_digestOfNearEnd_34 : decode cX8_digestOfNearEnd 34 = .ok (.bipush 12, 2) := by decide +kernel
theorem dX8_digestOfNearEnd_36 : decode cX8_digestOfNearEnd 36 = .ok (.if_icmp .ge 46, 3) := by decide +kernel
theorem dX8_digestOfNearEnd_39 : decode cX8_digestOfNearEnd 39 = .ok (.aload_n 2, 1) := by decide +kernel
theorem dX8_digestOfNearEnd_40 : decode cX8_digestOfNearEnd 40 = .ok (.iload 5, 2) := by decide +kernel
theorem dX8_digestOfNearEnd_42 : decode cX8_digestOfNearEnd 42 = .ok (.invokevirtual 222, 3) := by decide +kernel
theorem dX8_digestOfNearEnd_45 : decode cX8_digestOfNearEnd 45 = .ok (.ifCond .eq 37, 3) := by decide +kernel
theorem dX8_digestOfNearEnd_48 : decode cX8_digestOfNearEnd 48 = .ok (.iconst 0, 1) := by decide +kernel
theorem dX8_digestOfNearEnd_49 : decode cX8_digestOfNearEnd 49 = .ok (.istore 6, 2) := by decide +kernel
theorem dX8_digestOfNearEnd_51 : decode cX8_digestOfNearEnd 51 = .ok (.iload 6, 2) := by decide +kernel
theorem dX8_digestOfNearEnd_53 : decode cX8_digestOfNearEnd 53 = .ok (.iconst 5, 1) := by decide +kernel
theorem dX8_digestOfNearEnd_54 : decode cX8_digestOfNearEnd 54 = .ok (.if_icmp .ge 22, 3) := by decide +kernel
theorem dX8_digestOfNearEnd_57 : decode cX8_digestOfNearEnd 57 = .ok (.lload_n 3, 1) := by decide +kernel
theorem dX8_digestOfNearEnd_58 : decode cX8_digestOfNearEnd 58 = .ok (.aload_n 2, 1) := by decide +kernel
theorem dX8_digestOfNearEnd_59 : decode cX8_digestOfNearEnd 59 = .ok (.iload 5, 2) := by decide +kernel
theorem dX8_digestOfNearEnd_61 : decode cX8_digestOfNearEnd 61 = .ok (.iload 6, 2) := by decide +kernel
theorem dX8_digestOfNearEnd_63 : decode cX8_digestOfNearEnd 63 = .ok (.invokevirtual 225, 3) := by decide +kernel
theorem dX8_digestOfNearEnd_66 : decode cX8_digestOfNearEnd 66 = .ok (.invokestatic 276, 3) := by decide +kernel
theorem dX8_digestOfNearEnd_69 : decode cX8_digestOfNearEnd 69 = .ok (.lstore_n 3, 1) := by decide +kernel
theorem dX8_digestOfNearEnd_70 : decode cX8_digestOfNearEnd 70 = .ok (.iinc 6 1, 3) := by decide +kernel
theorem dX8_digestOfNearEnd_73 : decode cX8_digestOfNearEnd 73 = .ok (.goto (-22), 3) := by decide +kernel
theorem dX8_digestOfNearEnd_76 : decode cX8_digestOfNearEnd 76 = .ok (.iinc 5 1, 3) := by decide +kernel
theorem dX8_digestOfNearEnd_79 : decode cX8_digestOfNearEnd 79 = .ok (.goto (-47), 3) := by decide +kernel
theorem dX8_digestOfNearEnd_82 : decode cX8_digestOfNearEnd 82 = .ok (.lload_n 3, 1) := by decide +kernel
theorem dX8_digestOfNearEnd_83 : decode cX8_digestOfNearEnd 83 = .ok (.lreturn, 1) := by decide +kernel
abbrev rm_X8_digestOfNearEnd : Room := { frames := 4, cells := 0, slots := 0, locals := 85 }
def P_X8_digestOfNearEnd (l0 : Int64) (q2 : Nat) (h : HP) (Q : Int64 → HP → Prop) : Prop := Lp3 (fun X_5 (l3_5 : Int64) (i5_5 : Int32) (h_5 : HP) => ((10 ≤ i5_5) → (Lp3 (fun X_32 (l3_32 : Int64) (i5_32 : Int32) (h_32 : HP) => ((12 ≤ i5_32) → Q l3_32 h_32) ∧ ((¬ 12 ≤ i5_32) → (P_X3_hasPlace q2 i5_32 h_32 (fun (v_42 : Int32) (h_42 : HP) => ((v_42 = 0) → Q l3_32 h_42) ∧ ((¬ v_42 = 0) → (Lp3 (fun X_51 (l3_51 : Int64) (i6_51 : Int32) (h_51 : HP) => ((5 ≤ i6_51) → (X_32 l3_51 (i5_32 + 1) h_51)) ∧ ((¬ 5 ≤ i6_51) → (P_X3_tellGiven q2 i5_32 i6_51 h_51 (fun (v_63 : Int32) (h_63 : HP) => P_X8_mix l3_51 v_63 h_63 (fun (v_66 : Int64) (h_66 : HP) => X_51 v_66 (i6_51 + 1) h_66))))) l3_32 0 h_42)))))) l3_5 0 h_5)) ∧ ((¬ 10 ≤ i5_5) → (P_X3_tell q2 i5_5 h_5 (fun (v_16 : Int32) (h_16 : HP) => P_X8_mix l3_5 v_16 h_16 (fun (v_19 : Int64) (h_19 : HP) => X_5 v_19 (i5_5 + 1) h_19))))) l0 0 h
set_option maxHeartbeats 4000000 in
theorem t_X8_digestOfNearEnd {l0 : Int64} {q2 : Nat} {h : HP} {Q : Int64 → HP → Prop} (hq2 : Ty gC q2 3 0) (hp : P_X8_digestOfNearEnd l0 q2 h Q) : MT yX8_digestOfNearEnd cX8_digestOfNearEnd 7 (some .long) rm_X8_digestOfNearEnd [.long l0, .ref q2] gC SH (emb h) (pL Q) := by
  refine MT.of (by decide +kernel) (Nat.le_of_ble_eq_true rfl) (fun C hC hE => ?_)
  show SW C gC 0 [(0, .long l0), (2, .ref q2)] [] h
  unfold P_X8_digestOfNearEnd at hp
  refine x_lload_n hC dX8_digestOfNearEnd_0 (lm 0 rfl) ?_
  refine x_lstore_n (lv' := [(3, .long l0), (0, .long l0), (2, .ref q2)]) hC dX8_digestOfNearEnd_1 (by decide) rfl ?_
  refine x_iconst hC dX8_digestOfNearEnd_2 ic_0 ?_
  refine x_istore (lv' := [(5, .int 0), (3, .long l0), (0, .long l0), (2, .ref q2)]) hC dX8_digestOfNearEnd_3 (by decide) rfl ?_
  refine x_subk (lv' := [(2, .ref q2), (3, .long l0), (5, .int 0)]) [3, 1, 0] rfl ?_
  refine hp (fun l3_5 i5_5 h_5 => SW C gC 5 [(2, .ref q2), (3, .long l3_5), (5, .int i5_5)] [] h_5) (fun l3_5 i5_5 h_5 hp => ?_)
  refine x_iload hC dX8_digestOfNearEnd_5 (lm 2 rfl) ?_
  refine x_bipush hC dX8_digestOfNearEnd_7 bp_10 ?_
  refine x_icmp_ge (tgt := 29) hC dX8_digestOfNearEnd_9 (by decide) (fun hc => ?_) (fun hc => ?_)
  · have hp := hp.1 hc
    refine x_iconst hC dX8_digestOfNearEnd_29 ic_0 ?_
    refine x_istore (lv' := [(5, .int 0), (2, .ref q2), (3, .long l3_5)]) hC dX8_digestOfNearEnd_30 (by decide) rfl ?_
    refine x_subk (lv' := [(2, .ref q2), (3, .long l3_5), (5, .int 0)]) [1, 2, 0] rfl ?_
    refine hp (fun l3_32 i5_32 h_32 => SW C gC 32 [(2, .ref q2), (3, .long l3_32), (5, .int i5_32)] [] h_32) (fun l3_32 i5_32 h_32 hp => ?_)
    refine x_iload hC dX8_digestOfNearEnd_32 (lm 2 rfl) ?_
    refine x_bipush hC dX8_digestOfNearEnd_34 bp_12 ?_
    refine x_icmp_ge (tgt := 82) hC dX8_digestOfNearEnd_36 (by decide) (fun hc => ?_) (fun hc => ?_)
    · have hp := hp.1 hc
      refine x_lload_n hC dX8_digestOfNearEnd_82 (lm 1 rfl) ?_
      exact x_lret hC hE dX8_digestOfNearEnd_83 ⟨_, _, rfl, rfl, hp⟩
    · have hp := hp.2 hc
      refine x_aload_n hC dX8_digestOfNearEnd_39 (lm 0 rfl) ?_
      refine x_iload hC dX8_digestOfNearEnd_40 (lm 2 rfl) ?_
      refine s_callVi (avs := [.int i5_32]) (st := []) hC dX8_digestOfNearEnd_42 ml_8_222 mi_X3_hasPlace hq2 rfl (t_X3_hasPlace hq2 hp) (Nat.le_of_ble_eq_true rfl) ⟨rfl, rfl⟩ ⟨Nat.le_of_ble_eq_true rfl, Nat.le_of_ble_eq_true rfl⟩ (fun v_42 h_42 hp => ?_)
      refine x_if_eq (tgt := 82) hC dX8_digestOfNearEnd_45 (by decide) (fun hc => ?_) (fun hc => ?_)
      · have hp := hp.1 hc
        refine x_lload_n hC dX8_digestOfNearEnd_82 (lm 1 rfl) ?_
        exact x_lret hC hE dX8_digestOfNearEnd_83 ⟨_, _, rfl, rfl, hp⟩
      · have hp := hp.2 hc
        refine x_iconst hC dX8_digestOfNearEnd_48 ic_0 ?_
        refine x_istore (lv' := [(6, .int 0), (2, .ref q2), (3, .long l3_32), (5, .int i5_32)]) hC dX8_digestOfNearEnd_49 (by decide) rfl ?_
        refine x_subk (lv' := [(2, .ref q2), (3, .long l3_32), (5, .int i5_32), (6, .int 0)]) [1, 2, 3, 0] rfl ?_
        refine hp (fun l3_51 i6_51 h_51 => SW C gC 51 [(2, .ref q2), (3, .long l3_51), (5, .int i5_32), (6, .int i6_51)] [] h_51) (fun l3_51 i6_51 h_51 hp => ?_)
        refine x_iload hC dX8_digestOfNearEnd_51 (lm 3 rfl) ?_
        refine x_iconst hC dX8_digestOfNearEnd_53 ic_5 ?_
        refine x_icmp_ge (tgt := 76) hC dX8_digestOfNearEnd_54 (by decide) (fun hc => ?_) (fun hc => ?_)
        · have hp := hp.1 hc
          refine x_iinc (u := i5_32 + 1) (lv' := [(5, .int (i5_32 + 1)), (2, .ref q2), (3, .long l3_51), (6, .int i6_51)]) hC dX8_digestOfNearEnd_76 (lm 2 rfl) (congrArg _ ic_1) (by decide) rfl ?_
          refine x_goto (tgt := 32) hC dX8_digestOfNearEnd_79 (by decide) ?_
          exact x_subk [1, 2, 0] rfl hp
        · have hp := hp.2 hc
          refine x_lload_n hC dX8_digestOfNearEnd_57 (lm 1 rfl) ?_
          refine x_aload_n hC dX8_digestOfNearEnd_58 (lm 0 rfl) ?_
          refine x_iload hC dX8_digestOfNearEnd_59 (lm 2 rfl) ?_
          refine x_iload hC dX8_digestOfNearEnd_61 (lm 3 rfl) ?_
          refine s_callVi (avs := [.int i5_32, .int i6_51]) (st := [.long l3_51]) hC dX8_digestOfNearEnd_63 ml_8_225 mi_X3_tellGiven hq2 rfl (t_X3_tellGiven hq2 hp) (Nat.le_of_ble_eq_true rfl) ⟨rfl, rfl⟩ ⟨Nat.le_of_ble_eq_true rfl, Nat.le_of_ble_eq_true rfl⟩ (fun v_63 h_63 hp => ?_)
          refine s_callSl (avs := [.long l3_51, .int v_63]) (st := []) hC dX8_digestOfNearEnd_66 ml_8_276 ms_X8_mix rfl (t_X8_mix  hp) (Nat.le_of_ble_eq_true rfl) ⟨rfl, rfl⟩ ⟨Nat.le_of_ble_eq_true rfl, Nat.le_of_ble_eq_true rfl⟩ (fun v_66 h_66 hp => ?_)
          refine x_lstore_n (lv' := [(3, .long v_66), (2, .ref q2), (5, .int i5_32), (6, .int i6_51)]) hC dX8_digestOfNearEnd_69 (by decide) rfl ?_
          refine x_iinc (u := i6_51 + 1) (lv' := [(6, .int (i6_51 + 1)), (3, .long v_66), (2, .ref q2), (5, .int i5_32)]) hC dX8_digestOfNearEnd_70 (lm 3 rfl) (congrArg _ ic_1) (by decide) rfl ?_
          refine x_goto (tgt := 51) hC dX8_digestOfNearEnd_73 (by decide) ?_
          exact x_subk [2, 1, 3, 0] rfl hp
  · have hp := hp.2 hc
    refine x_lload_n hC dX8_digestOfNearEnd_12 (lm 1 rfl) ?_
    refine x_aload_n hC dX8_digestOfNearEnd_13 (lm 0 rfl) ?_
    refine x_iload hC dX8_digestOfNearEnd_14 (lm 2 rfl) ?_
    refine s_callVi (avs := [.int i5_5]) (st := [.long l3_5]) hC dX8_digestOfNearEnd_16 ml_8_221 mi_X3_tell hq2 rfl (t_X3_tell hq2 hp) (Nat.le_of_ble_eq_true rfl) ⟨rfl, rfl⟩ ⟨Nat.le_of_ble_eq_true rfl, Nat.le_of_ble_eq_true rfl⟩ (fun v_16 h_16 hp => ?_)
    refine s_callSl (avs := [.long l3_5, .int v_16]) (st := []) hC dX8_digestOfNearEnd_19 ml_8_276 ms_X8_mix rfl (t_X8_mix  hp) (Nat.le_of_ble_eq_true rfl) ⟨rfl, rfl⟩ ⟨Nat.le_of_ble_eq_true rfl, Nat.le_of_ble_eq_true rfl⟩ (fun v_19 h_19 hp => ?_)
    refine x_lstore_n (lv' := [(3, .long v_19), (2, .ref q2), (5, .int i5_5)]) hC dX8_digestOfNearEnd_22 (by decide) rfl ?_
    refine x_iinc (u := i5_5 + 1) (lv' := [(5, .int (i5_5 + 1)), (3, .long v_19), (2, .ref q2)]) hC dX8_digestOfNearEnd_23 (lm 2 rfl) (congrArg _ ic_1) (by decide) rfl ?_
    refine x_goto (tgt := 5) hC dX8_digestOfNearEnd_26 (by decide) ?_
    exact x_subk [2, 1, 0] rfl hp
theorem dX8_digestOfFarEnd_0 : decode cX8_digestOfFarEnd 0 = .ok (.lload_n 0, 1) := by decide +kernel
theorem dX8_digestOfFarEnd_1 : decode cX8_digestOfFarEnd 1 = .ok (.lstore_n 3, 1) := by decide +kernel
theorem dX8_digestOfFarEnd_2 : decode cX8_digestOfFarEnd 2 = .ok (.iconst 0, 1) := by decide +kernel
theorem dX8_digestOfFarEnd_3 : decode cX8_digestOfFarEnd 3 = .ok (.istore 5, 2) := by decide +kernel
theorem dX8_digestOfFarEnd_5 : decode cX8_digestOfFarEnd 5 = .ok (.iload 5, 2) := by decide +kernel
theorem dX8_digestOfFarEnd_7 : decode cX8_digestOfFarEnd 7 = .ok (.bipush 9, 2) := by decide +kernel
theorem dX8_digestOfFarEnd_9 : decode cX8_digestOfFarEnd 9 = .ok (.if_icmp .ge 20, 3) := by decide +kernel
theorem dX8_digestOfFarEnd_12 : decode cX8_digestOfFarEnd 12 = .ok (.lload_n 3, 1) := by decide +kernel
theorem dX8_digestOfFarEnd_13 : decode cX8_digestOfFarEnd 13 = .ok (.aload_n 2, 1) := by decide +kernel
theorem dX8_digestOfFarEnd_14 : decode cX8_digestOfFarEnd 14 = .ok (.iload 5, 2) := by decide +kernel
theorem dX8_digestOfFarEnd_16 : decode cX8_digestOfFarEnd 16 = .ok (.invokevirtual 228, 3) := by decide +kernel
theorem dX8_digestOfFarEnd_19 : decode cX8_digestOfFarEnd 19 = .ok (.invokestatic 276, 3) := by decide +kernel
theorem dX8_digestOfFarEnd_22 : decode cX8_digestOfFarEnd 22 = .ok (.lstore_n 3, 1) := by decide +kernel
theorem dX8_digestOfFarEnd_23 : decode cX8_digestOfFarEnd 23 = .ok (.iinc 5 1, 3) := by decide +kernel
theorem dX8_digestOfFarEnd_26 : decode cX8_digestOfFarEnd 26 = .ok (.goto (-21), 3) := by decide +kernel
theorem dX8_digestOfFarEnd_29 : decode cX8_digestOfFarEnd 29 = .ok (.iconst 0, 1) := by decide +kernel
theorem dX8_digestOfFarEnd_30 : decode cX8_digestOfFarEnd 30 = .ok (.istore 5, 2) := by decide +kernel
theorem dX8_digestOfFarEnd_32 : decode cX8_digestOfFarEnd 32 = .ok (.iload 5, 2) := by decide +kernel
theorem dX8_digestOfFarEnd_34 : decode cX8_digestOfFarEnd 34 = .ok (.bipush 12, 2) := by decide +kernel
theorem dX8_digestOfFarEnd_36 : decode cX8_digestOfFarEnd 36 = .ok (.if_icmp .ge 29, 3) := by decide +kernel
theorem dX8_digestOfFarEnd_39 : decode cX8_digestOfFarEnd 39 = .ok (.aload_n 2, 1) := by decide +kernel
theorem dX8_digestOfFarEnd_40 : decode cX8_digestOfFarEnd 40 = .ok (.iload 5, 2) := by decide +kernel
theorem dX8_digestOfFarEnd_42 : decode cX8_digestOfFarEnd 42 = .ok (.invokevirtual 229, 3) := by decide +kernel
theorem dX8_digestOfFarEnd_45 : decode cX8_digestOfFarEnd 45 = .ok (.ifCond .eq 20, 3) := by decide +kernel
theorem dX8_digestOfFarEnd_48 : decode cX8_digestOfFarEnd 48 = .ok (.lload_n 3, 1) := by decide +kernel
theorem dX8_digestOfFarEnd_49 : decode cX8_digestOfFarEnd 49 = .ok (.aload_n 2, 1) := by decide +kernel
theorem dX8_digestOfFarEnd_50 : decode cX8_digestOfFarEnd 50 = .ok (.iload 5, 2) := by decide +kernel
theorem dX8_digestOfFarEnd_52 : decode cX8_digestOfFarEnd 52 = .ok (.invokevirtual 230, 3) := by decide +kernel
theorem dX8_digestOfFarEnd_55 : decode cX8_digestOfFarEnd 55 = .ok (.invokestatic 276, 3) := by decide +kernel
theorem dX8_digestOfFarEnd_58 : decode cX8_digestOfFarEnd 58 = .ok (.lstore_n 3, 1) := by decide +kernel
theorem dX8_digestOfFarEnd_59 : decode cX8_digestOfFarEnd 59 = .ok (.iinc 5 1, 3) := by decide +kernel
theorem dX8_digestOfFarEnd_62 : decode cX8_digestOfFarEnd 62 = .ok (.goto (-30), 3) := by decide +kernel
theorem dX8_digestOfFarEnd_65 : decode cX8_digestOfFarEnd 65 = .ok (.iconst 0, 1) := by decide +kernel
theorem dX8_digestOfFarEnd_66 : decode cX8_digestOfFarEnd 66 = .ok (.istore 5, 2) := by decide +kernel
theorem dX8_digestOfFarEnd_68 : decode cX8_digestOfFarEnd 68 = .ok (.iload 5, 2) := by decide +kernel
theorem dX8_digestOfFarEnd_70 : decode cX8_digestOfFarEnd 70 = .ok (.bipush 10, 2) := by decide +kernel
theorem dX8_digestOfFarEnd_72 : decode cX8_digestOfFarEnd 72 = .ok (.if_icmp .ge 35, 3) := by decide +kernel
theorem dX8_digestOfFarEnd_75 : decode cX8_digestOfFarEnd 75 = .ok (.aload_n 2, 1) := by decide +kernel
theorem dX8_digestOfFarEnd_76 : decode cX8_digestOfFarEnd 76 = .ok (.getfield 240, 3) := by decide +kernel
theorem dX8_digestOfFarEnd_79 : decode cX8_digestOfFarEnd 79 = .ok (.iload 5, 2) := by decide +kernel
theorem dX8_digestOfFarEnd_81 : decode cX8_digestOfFarEnd 81 = .ok (.invokevirtual 244, 3) := by decide +kernel
theorem dX8_digestOfFarEnd_84 : decode cX8_digestOfFarEnd 84 = .ok (.ifCond .eq 23, 3) := by decide +kernel
theorem dX8_digestOfFarEnd_87 : decode cX8_digestOfFarEnd 87 = .ok (.lload_n 3, 1) := by decide +kernel
theorem dX8_digestOfFarEnd_88 : decode cX8_digestOfFarEnd 88 = .ok (.aload_n 2, 1) := by decide +kernel
theorem dX8_digestOfFarEnd_89 : decode cX8_digestOfFarEnd 89 = .ok (.getfield 240, 3) := by decide +kernel
theorem dX8_digestOfFarEnd_92 : decode cX8_digestOfFarEnd 92 = .ok (.iload 5, 2) := by decide +kernel
theorem dX8_digestOfFarEnd_94 : decode cX8_digestOfFarEnd 94 = .ok (.invokevirtual 247, 3) := by decide +kernel
theorem dX8_digestOfFarEnd_97 : decode cX8_digestOfFarEnd 97 = .ok (.invokestatic 276, 3) := by decide +kernel
theorem dX8_digestOfFarEnd_100 : decode cX8_digestOfFarEnd 100 = .ok (.lstore_n 3, 1) := by decide +kernel
theorem dX8_digestOfFarEnd_101 : decode cX8_digestOfFarEnd 101 = .ok (.iinc 5 1, 3) := by decide +kernel
theorem dX8_digestOfFarEnd_104 : decode cX8_digestOfFarEnd 104 = .ok (.goto (-36), 3) := by decide +kernel
theorem dX8_digestOfFarEnd_107 : decode cX8_digestOfFarEnd 107 = .ok (.lload_n 3, 1) := by decide +kernel
theorem dX8_digestOfFarEnd_108 : decode cX8_digestOfFarEnd 108 = .ok (.lreturn, 1) := by decide +kernel
abbrev rm_X8_digestOfFarEnd : Room := { frames := 5, cells := 0, slots := 0, locals := 105 }
def P_X8_digestOfFarEnd_j65 (q2 : Nat) (l3 : Int64) (h : HP)  (Q : Int64 → HP → Prop) : Prop := Lp3 (fun X_68 (l3_68 : Int64) (i5_68 : Int32) (h_68 : HP) => ((10 ≤ i5_68) → Q l3_68 h_68) ∧ ((¬ 10 ≤ i5_68) → (P_X4_has (q2 + 1) i5_68 h_68 (fun (v_81 : Int32) (h_81 : HP) => ((v_81 = 0) → Q l3_68 h_81) ∧ ((¬ v_81 = 0) → (P_X4_at (q2 + 1) i5_68 h_81 (fun (v_94 : Int32) (h_94 : HP) => P_X8_mix l3_68 v_94 h_94 (fun (v_97 : Int64) (h_97 : HP) => X_68 v_97 (i5_68 + 1) h_97)))))))) l3 0 h
def P_X8_digestOfFarEnd (l0 : Int64) (q2 : Nat) (h : HP) (Q : Int64 → HP → Prop) : Prop := Lp3 (fun X_5 (l3_5 : Int64) (i5_5 : Int32) (h_5 : HP) => ((9 ≤ i5_5) → (Lp3 (fun X_32 (l3_32 : Int64) (i5_32 : Int32) (h_32 : HP) => ((12 ≤ i5_32) → P_X8_digestOfFarEnd_j65 q2 l3_32 h_32 Q) ∧ ((¬ 12 ≤ i5_32) → (P_X1_hasPlace q2 i5_32 h_32 (fun (v_42 : Int32) (h_42 : HP) => ((v_42 = 0) → P_X8_digestOfFarEnd_j65 q2 l3_32 h_42 Q) ∧ ((¬ v_42 = 0) → (P_X1_keptAt q2 i5_32 h_42 (fun (v_52 : Int32) (h_52 : HP) => P_X8_mix l3_32 v_52 h_52 (fun (v_55 : Int64) (h_55 : HP) => X_32 v_55 (i5_32 + 1) h_55)))))))) l3_5 0 h_5)) ∧ ((¬ 9 ≤ i5_5) → (P_X1_tell q2 i5_5 h_5 (fun (v_16 : Int32) (h_16 : HP) => P_X8_mix l3_5 v_16 h_16 (fun (v_19 : Int64) (h_19 : HP) => X_5 v_19 (i5_5 + 1) h_19))))) l0 0 h
set_option maxHeartbeats 4000000 in
theorem l_X8_digestOfFarEnd_j65 {q2 : Nat} {l3 : Int64} {h : HP}  {Q : Int64 → HP → Prop} {C : Cx} (hC : xOk C cX8_digestOfFarEnd yX8_digestOfFarEnd.cls 6 rm_X8_digestOfFarEnd (some .long)) (hE : xEnd C gC SH (pL Q)) (hq2 : Ty gC q2 1 0)  (hp : P_X8_digestOfFarEnd_j65 q2 l3 h  Q) : SW C gC 65 [(2, .ref q2), (3, .long l3)] [] h := by
  unfold P_X8_digestOfFarEnd_j65 at hp
  refine x_iconst hC dX8_digestOfFarEnd_65 ic_0 ?_
  refine x_istore (lv' := [(5, .int 0), (2, .ref q2), (3, .long l3)]) hC dX8_digestOfFarEnd_66 (by decide) rfl ?_
  refine x_subk (lv' := [(2, .ref q2), (3, .long l3), (5, .int 0)]) [1, 2, 0] rfl ?_
  refine hp (fun l3_68 i5_68 h_68 => SW C gC 68 [(2, .ref q2), (3, .long l3_68), (5, .int i5_68)] [] h_68) (fun l3_68 i5_68 h_68 hp => ?_)
  refine x_iload hC dX8_digestOfFarEnd_68 (lm 2 rfl) ?_
  refine x_bipush hC dX8_digestOfFarEnd_70 bp_10 ?_
  refine x_icmp_ge (tgt := 107) hC dX8_digestOfFarEnd_72 (by decide) (fun hc => ?_) (fun hc => ?_)
  · have hp := hp.1 hc
    refine x_lload_n hC dX8_digestOfFarEnd_107 (lm 1 rfl) ?_
    exact x_lret hC hE dX8_digestOfFarEnd_108 ⟨_, _, rfl, rfl, hp⟩
  · have hp := hp.2 hc
    refine x_aload_n hC dX8_digestOfFarEnd_75 (lm 0 rfl) ?_
    refine s_getR (r := q2 + 1) hC dX8_digestOfFarEnd_76 fk_8_240 hq2 (fr_1_1 hq2).1 ?_
    refine x_iload hC dX8_digestOfFarEnd_79 (lm 2 rfl) ?_
    refine s_callVi (avs := [.int i5_68]) (st := []) hC dX8_digestOfFarEnd_81 ml_8_244 mi_X4_has ((fr_1_1 hq2).2) rfl (t_X4_has ((fr_1_1 hq2).2) hp) (Nat.le_of_ble_eq_true rfl) ⟨rfl, rfl⟩ ⟨Nat.le_of_ble_eq_true rfl, Nat.le_of_ble_eq_true rfl⟩ (fun v_81 h_81 hp => ?_)
    refine x_if_eq (tgt := 107) hC dX8_digestOfFarEnd_84 (by decide) (fun hc => ?_) (fun hc => ?_)
    · have hp := hp.1 hc
      refine x_lload_n hC dX8_digestOfFarEnd_107 (lm 1 rfl) ?_
      exact x_lret hC hE dX8_digestOfFarEnd_108 ⟨_, _, rfl, rfl, hp⟩
    · have hp := hp.2 hc
      refine x_lload_n hC dX8_digestOfFarEnd_87 (lm 1 rfl) ?_
      refine x_aload_n hC dX8_digestOfFarEnd_88 (lm 0 rfl) ?_
      refine s_getR (r := q2 + 1) hC dX8_digestOfFarEnd_89 fk_8_240 hq2 (fr_1_1 hq2).1 ?_
      refine x_iload hC dX8_digestOfFarEnd_92 (lm 2 rfl) ?_
      refine s_callVi (avs := [.int i5_68]) (st := [.long l3_68]) hC dX8_digestOfFarEnd_94 ml_8_247 mi_X4_at ((fr_1_1 hq2).2) rfl (t_X4_at ((fr_1_1 hq2).2) hp) (Nat.le_of_ble_eq_true rfl) ⟨rfl, rfl⟩ ⟨Nat.le_of_ble_eq_true rfl, Nat.le_of_ble_eq_true rfl⟩ (fun v_94 h_94 hp => ?_)
      refine s_callSl (avs := [.long l3_68, .int v_94]) (st := []) hC dX8_digestOfFarEnd_97 ml_8_276 ms_X8_mix rfl (t_X8_mix  hp) (Nat.le_of_ble_eq_true rfl) ⟨rfl, rfl⟩ ⟨Nat.le_of_ble_eq_true rfl, Nat.le_of_ble_eq_true rfl⟩ (fun v_97 h_97 hp => ?_)
      refine x_lstore_n (lv' := [(3, .long v_97), (2, .ref q2), (5, .int i5_68)]) hC dX8_digestOfFarEnd_100 (by decide) rfl ?_
      refine x_iinc (u := i5_68 + 1) (lv' := [(5, .int (i5_68 + 1)), (3, .long v_97), (2, .ref q2)]) hC dX8_digestOfFarEnd_101 (lm 2 rfl) (congrArg _ ic_1) (by decide) rfl ?_
      refine x_goto (tgt := 68) hC dX8_digestOfFarEnd_104 (by decide) ?_
      exact x_subk [2, 1, 0] rfl hp
set_option maxHeartbeats 4000000 in
theorem t_X8_digestOfFarEnd {l0 : Int64} {q2 : Nat} {h : HP} {Q : Int64 → HP → Prop} (hq2 : Ty gC q2 1 0) (hp : P_X8_digestOfFarEnd l0 q2 h Q) : MT yX8_digestOfFarEnd cX8_digestOfFarEnd 6 (some .long) rm_X8_digestOfFarEnd [.long l0, .ref q2] gC SH (emb h) (pL Q) := by
  refine MT.of (by decide +kernel) (Nat.le_of_ble_eq_true rfl) (fun C hC hE => ?_)
  show SW C gC 0 [(0, .long l0), (2, .ref q2)] [] h
  unfold P_X8_digestOfFarEnd at hp
  refine x_lload_n hC dX8_digestOfFarEnd_0 (lm 0 rfl) ?_
  refine x_lstore_n (lv' := [(3, .long l0), (0, .long l0), (2, .ref q2)]) hC dX8_digestOfFarEnd_1 (by decide) rfl ?_
  refine x_iconst hC dX8_digestOfFarEnd_2 ic_0 ?_
  refine x_istore (lv' := [(5, .int 0), (3, .long l0), (0, .long l0), (2, .ref q2)]) hC dX8_digestOfFarEnd_3 (by decide) rfl ?_
  refine x_subk (lv' := [(2, .ref q2), (3, .long l0), (5, .int 0)]) [3, 1, 0] rfl ?_
  refine hp (fun l3_5 i5_5 h_5 => SW C gC 5 [(2, .ref q2), (3, .long l3_5), (5, .int i5_5)] [] h_5) (fun l3_5 i5_5 h_5 hp => ?_)
  refine x_iload hC dX8_digestOfFarEnd_5 (lm 2 rfl) ?_
  refine x_bipush hC dX8_digestOfFarEnd_7 bp_9 ?_
  refine x_icmp_ge (tgt := 29) hC dX8_digestOfFarEnd_9 (by decide) (fun hc => ?_) (fun hc => ?_)
  · have hp := hp.1 hc
    refine x_iconst hC dX8_digestOfFarEnd_29 ic_0 ?_
    refine x_istore (lv' := [(5, .int 0), (2, .ref q2), (3, .long l3_5)]) hC dX8_digestOfFarEnd_30 (by decide) rfl ?_
    refine x_subk (lv' := [(2, .ref q2), (3, .long l3_5), (5, .int 0)]) [1, 2, 0] rfl ?_
    refine hp (fun l3_32 i5_32 h_32 => SW C gC 32 [(2, .ref q2), (3, .long l3_32), (5, .int i5_32)] [] h_32) (fun l3_32 i5_32 h_32 hp => ?_)
    refine x_iload hC dX8_digestOfFarEnd_32 (lm 2 rfl) ?_
    refine x_bipush hC dX8_digestOfFarEnd_34 bp_12 ?_
    refine x_icmp_ge (tgt := 65) hC dX8_digestOfFarEnd_36 (by decide) (fun hc => ?_) (fun hc => ?_)
    · have hp := hp.1 hc
      exact x_subk [0, 1] rfl (l_X8_digestOfFarEnd_j65 hC hE hq2  hp)
    · have hp := hp.2 hc
      refine x_aload_n hC dX8_digestOfFarEnd_39 (lm 0 rfl) ?_
      refine x_iload hC dX8_digestOfFarEnd_40 (lm 2 rfl) ?_
      refine s_callVi (avs := [.int i5_32]) (st := []) hC dX8_digestOfFarEnd_42 ml_8_229 mi_X1_hasPlace hq2 rfl (t_X1_hasPlace hq2 hp) (Nat.le_of_ble_eq_true rfl) ⟨rfl, rfl⟩ ⟨Nat.le_of_ble_eq_true rfl, Nat.le_of_ble_eq_true rfl⟩ (fun v_42 h_42 hp => ?_)
      refine x_if_eq (tgt := 65) hC dX8_digestOfFarEnd_45 (by decide) (fun hc => ?_) (fun hc => ?_)
      · have hp := hp.1 hc
        exact x_subk [0, 1] rfl (l_X8_digestOfFarEnd_j65 hC hE hq2  hp)
      · have hp := hp.2 hc
        refine x_lload_n hC dX8_digestOfFarEnd_48 (lm 1 rfl) ?_
        refine x_aload_n hC dX8_digestOfFarEnd_49 (lm 0 rfl) ?_
        refine x_iload hC dX8_digestOfFarEnd_50 (lm 2 rfl) ?_
        refine s_callVi (avs := [.int i5_32]) (st := [.long l3_32]) hC dX8_digestOfFarEnd_52 ml_8_230 mi_X1_keptAt hq2 rfl (t_X1_keptAt hq2 hp) (Nat.le_of_ble_eq_true rfl) ⟨rfl, rfl⟩ ⟨Nat.le_of_ble_eq_true rfl, Nat.le_of_ble_eq_true rfl⟩ (fun v_52 h_52 hp => ?_)
        refine s_callSl (avs := [.long l3_32, .int v_52]) (st := []) hC dX8_digestOfFarEnd_55 ml_8_276 ms_X8_mix rfl (t_X8_mix  hp) (Nat.le_of_ble_eq_true rfl) ⟨rfl, rfl⟩ ⟨Nat.le_of_ble_eq_true rfl, Nat.le_of_ble_eq_true rfl⟩ (fun v_55 h_55 hp => ?_)
        refine x_lstore_n (lv' := [(3, .long v_55), (2, .ref q2), (5, .int i5_32)]) hC dX8_digestOfFarEnd_58 (by decide) rfl ?_
        refine x_iinc (u := i5_32 + 1) (lv' := [(5, .int (i5_32 + 1)), (3, .long v_55), (2, .ref q2)]) hC dX8_digestOfFarEnd_59 (lm 2 rfl) (congrArg _ ic_1) (by decide) rfl ?_
        refine x_goto (tgt := 32) hC dX8_digestOfFarEnd_62 (by decide) ?_
        exact x_subk [2, 1, 0] rfl hp
  · have hp := hp.2 hc
    refine x_lload_n hC dX8_digestOfFarEnd_12 (lm 1 rfl) ?_
    refine x_aload_n hC dX8_digestOfFarEnd_13 (lm 0 rfl) ?_
    refine x_iload hC dX8_digestOfFarEnd_14 (lm 2 rfl) ?_
    refine s_callVi (avs := [.int i5_5]) (st := [.long l3_5]) hC dX8_digestOfFarEnd_16 ml_8_228 mi_X1_tell hq2 rfl (t_X1_tell hq2 hp) (Nat.le_of_ble_eq_true rfl) ⟨rfl, rfl⟩ ⟨Nat.le_of_ble_eq_true rfl, Nat.le_of_ble_eq_true rfl⟩ (fun v_16 h_16 hp => ?_)
    refine s_callSl (avs := [.long l3_5, .int v_16]) (st := []) hC dX8_digestOfFarEnd_19 ml_8_276 ms_X8_mix rfl (t_X8_mix  hp) (Nat.le_of_ble_eq_true rfl) ⟨rfl, rfl⟩ ⟨Nat.le_of_ble_eq_true rfl, Nat.le_of_ble_eq_true rfl⟩ (fun v_19 h_19 hp => ?_)
    refine x_lstore_n (lv' := [(3, .long v_19), (2, .ref q2), (5, .int i5_5)]) hC dX8_digestOfFarEnd_22 (by decide) rfl ?_
    refine x_iinc (u := i5_5 + 1) (lv' := [(5, .int (i5_5 + 1)), (3, .long v_19), (2, .ref q2)]) hC dX8_digestOfFarEnd_23 (lm 2 rfl) (congrArg _ ic_1) (by decide) rfl ?_
    refine x_goto (tgt := 5) hC dX8_digestOfFarEnd_26 (by decide) ?_
    exact x_subk [2, 1, 0] rfl hp
theorem dX8_digestOfLetter_0 : decode cX8_digestOfLetter 0 = .ok (.lload_n 0, 1) := by decide +kernel
theorem dX8_digestOfLetter_1 : decode cX8_digestOfLetter 1 = .ok (.lstore_n 3, 1) := by decide +kernel
theorem dX8_digestOfLetter_2 : decode cX8_digestOfLetter 2 = .ok (.iconst 0, 1) := by decide +kernel
theorem dX8_digestOfLetter_3 : decode cX8_digestOfLetter 3 = .ok (.istore 5, 2) := by decide +kernel
theorem dX8_digestOfLetter_5 : decode cX8_digestOfLetter 5 = .ok (.iload 5, 2) := by decide +kernel
theorem dX8_digestOfLetter_7 : decode cX8_digestOfLetter 7 = .ok (.bipush 6, 2) := by decide +kernel
theorem dX8_digestOfLetter_9 : decode cX8_digestOfLetter 9 = .ok (.if_icmp .ge 20, 3) := by decide +kernel
theorem dX8_digestOfLetter_12 : decode cX8_digestOfLetter 12 = .ok (.lload_n 3, 1) := by decide +kernel
theorem dX8_digestOfLetter_13 : decode cX8_digestOfLetter 13 = .ok (.aload_n 2, 1) := by decide +kernel
theorem dX8_digestOfLetter_14 : decode cX8_digestOfLetter 14 = .ok (.iload 5, 2) := by decide +kernel
theorem dX8_digestOfLetter_16 : decode cX8_digestOfLetter 16 = .ok (.invokevirtual 252, 3) := by decide +kernel
theorem dX8_digestOfLetter_19 : decode cX8_digestOfLetter 19 = .ok (.invokestatic 276, 3) := by decide +kernel
theorem dX8_digestOfLetter_22 : decode cX8_digestOfLetter 22 = .ok (.lstore_n 3, 1) := by decide +kernel
theorem dX8_digestOfLetter_23 : decode cX8_digestOfLetter 23 = .ok (.iinc 5 1, 3) := by decide +kernel
theorem dX8_digestOfLetter_26 : decode cX8_digestOfLetter 26 = .ok (.goto (-21), 3) := by decide +kernel
theorem dX8_digestOfLetter_29 : decode cX8_digestOfLetter 29 = .ok (.iconst 0, 1) := by decide +kernel
theorem dX8_digestOfLetter_30 : decode cX8_digestOfLetter 30 = .ok (.istore 5, 2) := by decide +kernel
theorem dX8_digestOfLetter_32 : decode cX8_digestOfLetter 32 = .ok (.iload 5, 2) := by decide +kernel
theorem dX8_digestOfLetter_34 : decode cX8_digestOfLetter 34 = .ok (.bipush 8, 2) := by decide +kernel
theorem dX8_digestOfLetter_36 : decode cX8_digestOfLetter 36 = .ok (.if_icmp .ge 46, 3) := by decide +kernel
theorem dX8_digestOfLetter_39 : decode cX8_digestOfLetter 39 = .ok (.aload_n 2, 1) := by decide +kernel
theorem dX8_digestOfLetter_40 : decode cX8_digestOfLetter 40 = .ok (.iload 5, 2) := by decide +kernel
theorem dX8_digestOfLetter_42 : decode cX8_digestOfLetter 42 = .ok (.invokevirtual 253, 3) := by decide +kernel
theorem dX8_digestOfLetter_45 : decode cX8_digestOfLetter 45 = .ok (.ifCond .eq 37, 3) := by decide +kernel
theorem dX8_digestOfLetter_48 : decode cX8_digestOfLetter 48 = .ok (.iconst 0, 1) := by decide +kernel
theorem dX8_digestOfLetter_49 : decode cX8_digestOfLetter 49 = .ok (.istore 6, 2) := by decide +kernel
theorem dX8_digestOfLetter_51 : decode cX8_digestOfLetter 51 = .ok (.iload 6, 2) := by decide +kernel
theorem dX8_digestOfLetter_53 : decode cX8_digestOfLetter 53 = .ok (.iconst 4, 1) := by decide +kernel
theorem dX8_digestOfLetter_54 : decode cX8_digestOfLetter 54 = .ok (.if_icmp .ge 22, 3) := by decide +kernel
theorem dX8_digestOfLetter_57 : decode cX8_digestOfLetter 57 = .ok (.lload_n 3, 1) := by decide +kernel
theorem dX8_digestOfLetter_58 : decode cX8_digestOfLetter 58 = .ok (.aload_n 2, 1) := by decide +kernel
theorem dX8_digestOfLetter_59 : decode cX8_digestOfLetter 59 = .ok (.iload 5, 2) := by decide +kernel
theorem dX8_digestOfLetter_61 : decode cX8_digestOfLetter 61 = .ok (.iload 6, 2) := by decide +kernel
theorem dX8_digestOfLetter_63 : decode cX8_digestOfLetter 63 = .ok (.invokevirtual 256, 3) := by decide +kernel
theorem dX8_digestOfLetter_66 : decode cX8_digestOfLetter 66 = .ok (.invokestatic 276, 3) := by decide +kernel
theorem dX8_digestOfLetter_69 : decode cX8_digestOfLetter 69 = .ok (.lstore_n 3, 1) := by decide +kernel
theorem dX8_digestOfLetter_70 : decode cX8_digestOfLetter 70 = .ok (.iinc 6 1, 3) := by decide +kernel
theorem dX8_digestOfLetter_73 : decode cX8_digestOfLetter 73 = .ok (.goto (-22), 3) := by decide +kernel
theorem dX8_digestOfLetter_76 : decode cX8_digestOfLetter 76 = .ok (.iinc 5 1, 3) := by decide +kernel
theorem dX8_digestOfLetter_79 : decode cX8_digestOfLetter 79 = .ok (.goto (-47), 3) := by decide +kernel
theorem dX8_digestOfLetter_82 : decode cX8_digestOfLetter 82 = .ok (.lload_n 3, 1) := by decide +kernel
theorem dX8_digestOfLetter_83 : decode cX8_digestOfLetter 83 = .ok (.lreturn, 1) := by decide +kernel
abbrev rm_X8_digestOfLetter : Room := { frames := 3, cells := 0, slots := 0, locals := 65 }
def P_X8_digestOfLetter (l0 : Int64) (q2 : Nat) (h : HP) (Q : Int64 → HP → Prop) : Prop := Lp3 (fun X_5 (l3_5 : Int64) (i5_5 : Int32) (h_5 : HP) => ((6 ≤ i5_5) → (Lp3 (fun X_32 (l3_32 : Int64) (i5_32 : Int32) (h_32 : HP) => ((8 ≤ i5_32) → Q l3_32 h_32) ∧ ((¬ 8 ≤ i5_32) → (P_X2_hasFrame q2 i5_32 h_32 (fun (v_42 : Int32) (h_42 : HP) => ((v_42 = 0) → Q l3_32 h_42) ∧ ((¬ v_42 = 0) → (Lp3 (fun X_51 (l3_51 : Int64) (i6_51 : Int32) (h_51 : HP) => ((4 ≤ i6_51) → (X_32 l3_51 (i5_32 + 1) h_51)) ∧ ((¬ 4 ≤ i6_51) → (P_X2_tellFrame q2 i5_32 i6_51 h_51 (fun (v_63 : Int32) (h_63 : HP) => P_X8_mix l3_51 v_63 h_63 (fun (v_66 : Int64) (h_66 : HP) => X_51 v_66 (i6_51 + 1) h_66))))) l3_32 0 h_42)))))) l3_5 0 h_5)) ∧ ((¬ 6 ≤ i5_5) → (P_X2_tell q2 i5_5 h_5 (fun (v_16 : Int32) (h_16 : HP) => P_X8_mix l3_5 v_16 h_16 (fun (v_19 : Int64) (h_19 : HP) => X_5 v_19 (i5_5 + 1) h_19))))) l0 0 h
set_option maxHeartbeats 4000000 in
theorem t_X8_digestOfLetter {l0 : Int64} {q2 : Nat} {h : HP} {Q : Int64 → HP → Prop} (hq2 : Ty gC q2 2 0) (hp : P_X8_digestOfLetter l0 q2 h Q) : MT yX8_digestOfLetter cX8_digestOfLetter 7 (some .long) rm_X8_digestOfLetter [.long l0, .ref q2] gC SH (emb h) (pL Q) := by
  refine MT.of (by decide +kernel) (Nat.le_of_ble_eq_true rfl) (fun C hC hE => ?_)
  show SW C gC 0 [(0, .long l0), (2, .ref q2)] [] h
  unfold P_X8_digestOfLetter at hp
  refine x_lload_n hC dX8_digestOfLetter_0 (lm 0 rfl) ?_
  refine x_lstore_n (lv' := [(3, .long l0), (0, .long l0), (2, .ref q2)]) hC dX8_digestOfLetter_1 (by decide) rfl ?_
  refine x_iconst hC dX8_digestOfLetter_2 ic_0 ?_
  refine x_istore (lv' := [(5, .int 0), (3, .long l0), (0, .long l0), (2, .ref q2)]) hC dX8_digestOfLetter_3 (by decide) rfl ?_
  refine x_subk (lv' := [(2, .ref q2), (3, .long l0), (5, .int 0)]) [3, 1, 0] rfl ?_
  refine hp (fun l3_5 i5_5 h_5 => SW C gC 5 [(2, .ref q2), (3, .long l3_5), (5, .int i5_5)] [] h_5) (fun l3_5 i5_5 h_5 hp => ?_)
  refine x_iload hC dX8_digestOfLetter_5 (lm 2 rfl) ?_
  refine x_bipush hC dX8_digestOfLetter_7 bp_6 ?_
  refine x_icmp_ge (tgt := 29) hC dX8_digestOfLetter_9 (by decide) (fun hc => ?_) (fun hc => ?_)
  · have hp := hp.1 hc
    refine x_iconst hC dX8_digestOfLetter_29 ic_0 ?_
    refine x_istore (lv' := [(5, .int 0), (2, .ref q2), (3, .long l3_5)]) hC dX8_digestOfLetter_30 (by decide) rfl ?_
    refine x_subk (lv' := [(2, .ref q2), (3, .long l3_5), (5, .int 0)]) [1, 2, 0] rfl ?_
    refine hp (fun l3_32 i5_32 h_32 => SW C gC 32 [(2, .ref q2), (3, .long l3_32), (5, .int i5_32)] [] h_32) (fun l3_32 i5_32 h_32 hp => ?_)
    refine x_iload hC dX8_digestOfLetter_32 (lm 2 rfl) ?_
    refine x_bipush hC dX8_digestOfLetter_34 bp_8 ?_
    refine x_icmp_ge (tgt := 82) hC dX8_digestOfLetter_36 (by decide) (fun hc => ?_) (fun hc => ?_)
    · have hp := hp.1 hc
      refine x_lload_n hC dX8_digestOfLetter_82 (lm 1 rfl) ?_
      exact x_lret hC hE dX8_digestOfLetter_83 ⟨_, _, rfl, rfl, hp⟩
    · have hp := hp.2 hc
      refine x_aload_n hC dX8_digestOfLetter_39 (lm 0 rfl) ?_
      refine x_iload hC dX8_digestOfLetter_40 (lm 2 rfl) ?_
      refine s_callVi (avs := [.int i5_32]) (st := []) hC dX8_digestOfLetter_42 ml_8_253 mi_X2_hasFrame hq2 rfl (t_X2_hasFrame hq2 hp) (Nat.le_of_ble_eq_true rfl) ⟨rfl, rfl⟩ ⟨Nat.le_of_ble_eq_true rfl, Nat.le_of_ble_eq_true rfl⟩ (fun v_42 h_42 hp => ?_)
      refine x_if_eq (tgt := 82) hC dX8_digestOfLetter_45 (by decide) (fun hc => ?_) (fun hc => ?_)
      · have hp := hp.1 hc
        refine x_lload_n hC dX8_digestOfLetter_82 (lm 1 rfl) ?_
        exact x_lret hC hE dX8_digestOfLetter_83 ⟨_, _, rfl, rfl, hp⟩
      · have hp := hp.2 hc
        refine x_iconst hC dX8_digestOfLetter_48 ic_0 ?_
        refine x_istore (lv' := [(6, .int 0), (2, .ref q2), (3, .long l3_32), (5, .int i5_32)]) hC dX8_digestOfLetter_49 (by decide) rfl ?_
        refine x_subk (lv' := [(2, .ref q2), (3, .long l3_32), (5, .int i5_32), (6, .int 0)]) [1, 2, 3, 0] rfl ?_
        refine hp (fun l3_51 i6_51 h_51 => SW C gC 51 [(2, .ref q2), (3, .long l3_51), (5, .int i5_32), (6, .int i6_51)] [] h_51) (fun l3_51 i6_51 h_51 hp => ?_)
        refine x_iload hC dX8_digestOfLetter_51 (lm 3 rfl) ?_
        refine x_iconst hC dX8_digestOfLetter_53 ic_4 ?_
        refine x_icmp_ge (tgt := 76) hC dX8_digestOfLetter_54 (by decide) (fun hc => ?_) (fun hc => ?_)
        · have hp := hp.1 hc
          refine x_iinc (u := i5_32 + 1) (lv' := [(5, .int (i5_32 + 1)), (2, .ref q2), (3, .long l3_51), (6, .int i6_51)]) hC dX8_digestOfLetter_76 (lm 2 rfl) (congrArg _ ic_1) (by decide) rfl ?_
          refine x_goto (tgt := 32) hC dX8_digestOfLetter_79 (by decide) ?_
          exact x_subk [1, 2, 0] rfl hp
        · have hp := hp.2 hc
          refine x_lload_n hC dX8_digestOfLetter_57 (lm 1 rfl) ?_
          refine x_aload_n hC dX8_digestOfLetter_58 (lm 0 rfl) ?_
          refine x_iload hC dX8_digestOfLetter_59 (lm 2 rfl) ?_
          refine x_iload hC dX8_digestOfLetter_61 (lm 3 rfl) ?_
          refine s_callVi (avs := [.int i5_32, .int i6_51]) (st := [.long l3_51]) hC dX8_digestOfLetter_63 ml_8_256 mi_X2_tellFrame hq2 rfl (t_X2_tellFrame hq2 hp) (Nat.le_of_ble_eq_true rfl) ⟨rfl, rfl⟩ ⟨Nat.le_of_ble_eq_true rfl, Nat.le_of_ble_eq_true rfl⟩ (fun v_63 h_63 hp => ?_)
          refine s_callSl (avs := [.long l3_51, .int v_63]) (st := []) hC dX8_digestOfLetter_66 ml_8_276 ms_X8_mix rfl (t_X8_mix  hp) (Nat.le_of_ble_eq_true rfl) ⟨rfl, rfl⟩ ⟨Nat.le_of_ble_eq_true rfl, Nat.le_of_ble_eq_true rfl⟩ (fun v_66 h_66 hp => ?_)
          refine x_lstore_n (lv' := [(3, .long v_66), (2, .ref q2), (5, .int i5_32), (6, .int i6_51)]) hC dX8_digestOfLetter_69 (by decide) rfl ?_
          refine x_iinc (u := i6_51 + 1) (lv' := [(6, .int (i6_51 + 1)), (3, .long v_66), (2, .ref q2), (5, .int i5_32)]) hC dX8_digestOfLetter_70 (lm 3 rfl) (congrArg _ ic_1) (by decide) rfl ?_
          refine x_goto (tgt := 51) hC dX8_digestOfLetter_73 (by decide) ?_
          exact x_subk [2, 1, 3, 0] rfl hp
  · have hp := hp.2 hc
    refine x_lload_n hC dX8_digestOfLetter_12 (lm 1 rfl) ?_
    refine x_aload_n hC dX8_digestOfLetter_13 (lm 0 rfl) ?_
    refine x_iload hC dX8_digestOfLetter_14 (lm 2 rfl) ?_
    refine s_callVi (avs := [.int i5_5]) (st := [.long l3_5]) hC dX8_digestOfLetter_16 ml_8_252 mi_X2_tell hq2 rfl (t_X2_tell hq2 hp) (Nat.le_of_ble_eq_true rfl) ⟨rfl, rfl⟩ ⟨Nat.le_of_ble_eq_true rfl, Nat.le_of_ble_eq_true rfl⟩ (fun v_16 h_16 hp => ?_)
    refine s_callSl (avs := [.long l3_5, .int v_16]) (st := []) hC dX8_digestOfLetter_19 ml_8_276 ms_X8_mix rfl (t_X8_mix  hp) (Nat.le_of_ble_eq_true rfl) ⟨rfl, rfl⟩ ⟨Nat.le_of_ble_eq_true rfl, Nat.le_of_ble_eq_true rfl⟩ (fun v_19 h_19 hp => ?_)
    refine x_lstore_n (lv' := [(3, .long v_19), (2, .ref q2), (5, .int i5_5)]) hC dX8_digestOfLetter_22 (by decide) rfl ?_
    refine x_iinc (u := i5_5 + 1) (lv' := [(5, .int (i5_5 + 1)), (3, .long v_19), (2, .ref q2)]) hC dX8_digestOfLetter_23 (lm 2 rfl) (congrArg _ ic_1) (by decide) rfl ?_
    refine x_goto (tgt := 5) hC dX8_digestOfLetter_26 (by decide) ?_
    exact x_subk [2, 1, 0] rfl hp
