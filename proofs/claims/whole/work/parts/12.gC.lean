theorem dX3_bundleGoes_0 : decode cX3_bundleGoes 0 = .ok (.iconst 0, 1) := by decide +kernel
theorem dX3_bundleGoes_1 : decode cX3_bundleGoes 1 = .ok (.istore_n 3, 1) := by decide +kernel
theorem dX3_bundleGoes_2 : decode cX3_bundleGoes 2 = .ok (.iload_n 3, 1) := by decide +kernel
theorem dX3_bundleGoes_3 : decode cX3_bundleGoes 3 = .ok (.aload_n 0, 1) := by decide +kernel
theorem dX3_bundleGoes_4 : decode cX3_bundleGoes 4 = .ok (.getfield 67, 3) := by decide +kernel
theorem dX3_bundleGoes_7 : decode cX3_bundleGoes 7 = .ok (.if_icmp .ge 88, 3) := by decide +kernel
theorem dX3_bundleGoes_10 : decode cX3_bundleGoes 10 = .ok (.aload_n 1, 1) := by decide +kernel
theorem dX3_bundleGoes_11 : decode cX3_bundleGoes 11 = .ok (.getfield 93, 3) := by decide +kernel
theorem dX3_bundleGoes_14 : decode cX3_bundleGoes 14 = .ok (.iload_n 2, 1) := by decide +kernel
theorem dX3_bundleGoes_15 : decode cX3_bundleGoes 15 = .ok (.if_icmp .ge 80, 3) := by decide +kernel
theorem dX3_bundleGoes_18 : decode cX3_bundleGoes 18 = .ok (.iload_n 3, 1) := by decide +kernel
theorem dX3_bundleGoes_19 : decode cX3_bundleGoes 19 = .ok (.aload_n 0, 1) := by decide +kernel
theorem dX3_bundleGoes_20 : decode cX3_bundleGoes 20 = .ok (.invokevirtual 74, 3) := by decide +kernel
theorem dX3_bundleGoes_23 : decode cX3_bundleGoes 23 = .ok (.if_icmp .lt 7, 3) := by decide +kernel
theorem dX3_bundleGoes_26 : decode cX3_bundleGoes 26 = .ok (.aload_n 0, 1) := by decide +kernel
theorem dX3_bundleGoes_27 : decode cX3_bundleGoes 27 = .ok (.invokevirtual 98, 3) := by decide +kernel
theorem dX3_bundleGoes_30 : decode cX3_bundleGoes 30 = .ok (.aload_n 0, 1) := by decide +kernel
theorem dX3_bundleGoes_31 : decode cX3_bundleGoes 31 = .ok (.getfield 39, 3) := by decide +kernel
theorem dX3_bundleGoes_34 : decode cX3_bundleGoes 34 = .ok (.iload_n 3, 1) := by decide +kernel
theorem dX3_bundleGoes_35 : decode cX3_bundleGoes 35 = .ok (.iadd, 1) := by decide +kernel
theorem dX3_bundleGoes_36 : decode cX3_bundleGoes 36 = .ok (.invokestatic 82, 3) := by decide +kernel
theorem dX3_bundleGoes_39 : decode cX3_bundleGoes 39 = .ok (.istore 4, 2) := by decide +kernel
theorem dX3_bundleGoes_41 : decode cX3_bundleGoes 41 = .ok (.aload_n 0, 1) := by decide +kernel
theorem dX3_bundleGoes_42 : decode cX3_bundleGoes 42 = .ok (.getfield 27, 3) := by decide +kernel
theorem dX3_bundleGoes_45 : decode cX3_bundleGoes 45 = .ok (.iload 4, 2) := by decide +kernel
theorem dX3_bundleGoes_47 : decode cX3_bundleGoes 47 = .ok (.baload, 1) := by decide +kernel
theorem dX3_bundleGoes_48 : decode cX3_bundleGoes 48 = .ok (.ifCond .ne 41, 3) := by decide +kernel
theorem dX3_bundleGoes_51 : decode cX3_bundleGoes 51 = .ok (.aload_n 0, 1) := by decide +kernel
theorem dX3_bundleGoes_52 : decode cX3_bundleGoes 52 = .ok (.getfield 24, 3) := by decide +kernel
theorem dX3_bundleGoes_55 : decode cX3_bundleGoes 55 = .ok (.iload 4, 2) := by decide +kernel
theorem dX3_bundleGoes_57 : decode cX3_bundleGoes 57 = .ok (.dup2, 1) := by decide +kernel
theorem dX3_bundleGoes_58 : decode cX3_bundleGoes 58 = .ok (.iaload, 1) := by decide +kernel
theorem dX3_bundleGoes_59 : decode cX3_bundleGoes 59 = .ok (.iconst 1, 1) := by decide +kernel
theorem dX3_bundleGoes_60 : decode cX3_bundleGoes 60 = .ok (.iadd, 1) := by decide +kernel
theorem dX3_bundleGoes_61 : decode cX3_bundleGoes 61 = .ok (.iastore, 1) := by decide +kernel
theorem dX3_bundleGoes_62 : decode cX3_bundleGoes 62 = .ok (.aload_n 1, 1) := by decide +kernel
theorem dX3_bundleGoes_63 : decode cX3_bundleGoes 63 = .ok (.aload_n 0, 1) := by decide +kernel
theorem dX3_bundleGoes_64 : decode cX3_bundleGoes 64 = .ok (.getfield 39, 3) := by decide +kernel
theorem dX3_bundleGoes_67 : decode cX3_bundleGoes 67 = .ok (.iload_n 3, 1) := by decide +kernel
theorem dX3_bundleGoes_68 : decode cX3_bundleGoes 68 = .ok (.iadd, 1) := by decide +kernel
theorem dX3_bundleGoes_69 : decode cX3_bundleGoes 69 = .ok (.invokestatic 101, 3) := by decide +kernel
theorem dX3_bundleGoes_72 : decode cX3_bundleGoes 72 = .ok (.aload_n 0, 1) := by decide +kernel
theorem dX3_bundleGoes_73 : decode cX3_bundleGoes 73 = .ok (.getfield 18, 3) := by decide +kernel
theorem dX3_bundleGoes_76 : decode cX3_bundleGoes 76 = .ok (.iload 4, 2) := by decide +kernel
theorem dX3_bundleGoes_78 : decode cX3_bundleGoes 78 = .ok (.iaload, 1) := by decide +kernel
theorem dX3_bundleGoes_79 : decode cX3_bundleGoes 79 = .ok (.aload_n 0, 1) := by decide +kernel
theorem dX3_bundleGoes_80 : decode cX3_bundleGoes 80 = .ok (.getfield 21, 3) := by decide +kernel
theorem dX3_bundleGoes_83 : decode cX3_bundleGoes 83 = .ok (.iload 4, 2) := by decide +kernel
theorem dX3_bundleGoes_85 : decode cX3_bundleGoes 85 = .ok (.iaload, 1) := by decide +kernel
theorem dX3_bundleGoes_86 : decode cX3_bundleGoes 86 = .ok (.invokevirtual 104, 3) := by decide +kernel
theorem dX3_bundleGoes_89 : decode cX3_bundleGoes 89 = .ok (.iinc 3 1, 3) := by decide +kernel
theorem dX3_bundleGoes_92 : decode cX3_bundleGoes 92 = .ok (.goto (-90), 3) := by decide +kernel
theorem dX3_bundleGoes_95 : decode cX3_bundleGoes 95 = .ok (.aload_n 0, 1) := by decide +kernel
theorem dX3_bundleGoes_96 : decode cX3_bundleGoes 96 = .ok (.iconst 1, 1) := by decide +kernel
theorem dX3_bundleGoes_97 : decode cX3_bundleGoes 97 = .ok (.putfield 51, 3) := by decide +kernel
theorem dX3_bundleGoes_100 : decode cX3_bundleGoes 100 = .ok (.aload_n 0, 1) := by decide +kernel
theorem dX3_bundleGoes_101 : decode cX3_bundleGoes 101 = .ok (.iconst 0, 1) := by decide +kernel
theorem dX3_bundleGoes_102 : decode cX3_bundleGoes 102 = .ok (.putfield 58, 3) := by decide +kernel
theorem dX3_bundleGoes_105 : decode cX3_bundleGoes 105 = .ok (.return_, 1) := by decide +kernel
abbrev rm_X3_bundleGoes : Room := { frames := 3, cells := 0, slots := 0, locals := 71 }
def P_X3_bundleGoes_j30 (q0 : Nat) (q1 : Nat) (i2 : Int32) (i3 : Int32) (h : HP) (X_2 : Int32 → HP → Prop) (Q : HP → Prop) : Prop := P_X8_slot ((h.1 q0 4) + i3) h (fun (v_36 : Int32) (h_36 : HP) => (vp_in v_36 16) ∧ (((¬ (h_36.1 (q0 + 6) v_36.toNatClampNeg) = 0) → (X_2 (i3 + 1) h_36)) ∧ (((h_36.1 (q0 + 6) v_36.toNatClampNeg) = 0) → ((vp_in v_36 16) ∧ ((vp_in v_36 16) ∧ (P_X8_round (((si h_36 (q0 + 5) v_36.toNatClampNeg ((h_36.1 (q0 + 5) v_36.toNatClampNeg) + 1)).1 q0 4) + i3) (si h_36 (q0 + 5) v_36.toNatClampNeg ((h_36.1 (q0 + 5) v_36.toNatClampNeg) + 1)) (fun (v_69 : Int32) (h_69 : HP) => (vp_in v_36 16) ∧ ((vp_in v_36 16) ∧ (P_X2_bind q1 v_69 (h_69.1 (q0 + 3) v_36.toNatClampNeg) (h_69.1 (q0 + 4) v_36.toNatClampNeg) h_69 (fun (h_86 : HP) => X_2 (i3 + 1) h_86))))))))))
def P_X3_bundleGoes (q0 : Nat) (q1 : Nat) (i2 : Int32) (h : HP) (Q : HP → Prop) : Prop := Lp2 (fun X_2 (i3_2 : Int32) (h_2 : HP) => (((h_2.1 q0 2) ≤ i3_2) → (Q (si (si h_2 q0 8 1) q0 10 0))) ∧ ((¬ (h_2.1 q0 2) ≤ i3_2) → (((i2 ≤ (h_2.1 q1 7)) → (Q (si (si h_2 q0 8 1) q0 10 0))) ∧ ((¬ i2 ≤ (h_2.1 q1 7)) → (P_X3_spread q0 h_2 (fun (v_20 : Int32) (h_20 : HP) => ((i3_2 < v_20) → P_X3_bundleGoes_j30 q0 q1 i2 i3_2 h_20 X_2 Q) ∧ ((¬ i3_2 < v_20) → (P_X3_giveNext q0 h_20 (fun (h_27 : HP) => P_X3_bundleGoes_j30 q0 q1 i2 i3_2 h_27 X_2 Q))))))))) 0 h
set_option maxHeartbeats 4000000 in
theorem l_X3_bundleGoes_j30 {q0 : Nat} {q1 : Nat} {i2 : Int32} {i3 : Int32} {h : HP} {X_2 : Int32 → HP → Prop} {Q : HP → Prop} {C : Cx} (hC : xOk C cX3_bundleGoes yX3_bundleGoes.cls 5 rm_X3_bundleGoes none) (hE : xEnd C gC SH (pV Q)) (hq0 : Ty gC q0 3 0) (hq1 : Ty gC q1 2 0) (hX_2 : ∀ (x3 : Int32) (hx : HP), X_2 x3 hx → SW C gC 2 [(0, .ref q0), (1, .ref q1), (2, .int i2), (3, .int x3)] [] hx) (hp : P_X3_bundleGoes_j30 q0 q1 i2 i3 h X_2 Q) : SW C gC 30 [(0, .ref q0), (1, .ref q1), (2, .int i2), (3, .int i3)] [] h := by
  unfold P_X3_bundleGoes_j30 at hp
  refine x_aload_n hC dX3_bundleGoes_30 (lm 0 rfl) ?_
  refine s_getI hC dX3_bundleGoes_31 fk_3_39 hq0 ?_
  refine x_iload_n hC dX3_bundleGoes_34 (lm 3 rfl) ?_
  refine x_iadd hC dX3_bundleGoes_35 ?_
  refine s_callNi (avs := [.int ((h.1 q0 4) + i3)]) (st := []) hC dX3_bundleGoes_36 nl_3_82 ms_X8_slot rfl (t_X8_slot  hp) (Nat.le_of_ble_eq_true rfl) ⟨rfl, rfl⟩ ⟨Nat.le_of_ble_eq_true rfl, Nat.le_of_ble_eq_true rfl⟩ (fun v_36 h_36 hp => ?_)
  refine x_istore (lv' := [(4, .int v_36), (0, .ref q0), (1, .ref q1), (2, .int i2), (3, .int i3)]) hC dX3_bundleGoes_39 (by decide) rfl ?_
  refine x_aload_n hC dX3_bundleGoes_41 (lm 1 rfl) ?_
  refine s_getR (r := q0 + 6) hC dX3_bundleGoes_42 fk_3_27 hq0 (fr_3_16 hq0).1 ?_
  refine x_iload hC dX3_bundleGoes_45 (lm 0 rfl) ?_
  obtain ⟨ho, hp⟩ := hp
  refine s_zald hC dX3_bundleGoes_47 ((fr_3_16 hq0).2) ho ?_
  refine x_if_ne (tgt := 89) hC dX3_bundleGoes_48 (by decide) (fun hc => ?_) (fun hc => ?_)
  · have hp := hp.1 hc
    refine x_iinc (u := i3 + 1) (lv' := [(3, .int (i3 + 1)), (4, .int v_36), (0, .ref q0), (1, .ref q1), (2, .int i2)]) hC dX3_bundleGoes_89 (lm 4 rfl) (congrArg _ ic_1) (by decide) rfl ?_
    refine x_goto (tgt := 2) hC dX3_bundleGoes_92 (by decide) ?_
    exact x_subk [2, 3, 4, 0] rfl (hX_2 _ _ hp)
  · have hp := hp.2 hc
    refine x_aload_n hC dX3_bundleGoes_51 (lm 1 rfl) ?_
    refine s_getR (r := q0 + 5) hC dX3_bundleGoes_52 fk_3_24 hq0 (fr_3_15 hq0).1 ?_
    refine x_iload hC dX3_bundleGoes_55 (lm 0 rfl) ?_
    refine x_dup2 hC dX3_bundleGoes_57 rfl rfl ?_
    obtain ⟨ho, hp⟩ := hp
    refine s_iald hC dX3_bundleGoes_58 ((fr_3_15 hq0).2) ho ?_
    refine x_iconst hC dX3_bundleGoes_59 ic_1 ?_
    refine x_iadd hC dX3_bundleGoes_60 ?_
    obtain ⟨ho, hp⟩ := hp
    refine s_iast hC dX3_bundleGoes_61 ((fr_3_15 hq0).2) ho ?_
    refine x_aload_n hC dX3_bundleGoes_62 (lm 2 rfl) ?_
    refine x_aload_n hC dX3_bundleGoes_63 (lm 1 rfl) ?_
    refine s_getI hC dX3_bundleGoes_64 fk_3_39 hq0 ?_
    refine x_iload_n hC dX3_bundleGoes_67 (lm 4 rfl) ?_
    refine x_iadd hC dX3_bundleGoes_68 ?_
    refine s_callNi (avs := [.int (((si h_36 (q0 + 5) v_36.toNatClampNeg ((h_36.1 (q0 + 5) v_36.toNatClampNeg) + 1)).1 q0 4) + i3)]) (st := [.ref q1]) hC dX3_bundleGoes_69 nl_3_101 ms_X8_round rfl (t_X8_round  hp) (Nat.le_of_ble_eq_true rfl) ⟨rfl, rfl⟩ ⟨Nat.le_of_ble_eq_true rfl, Nat.le_of_ble_eq_true rfl⟩ (fun v_69 h_69 hp => ?_)
    refine x_aload_n hC dX3_bundleGoes_72 (lm 1 rfl) ?_
    refine s_getR (r := q0 + 3) hC dX3_bundleGoes_73 fk_3_18 hq0 (fr_3_13 hq0).1 ?_
    refine x_iload hC dX3_bundleGoes_76 (lm 0 rfl) ?_
    obtain ⟨ho, hp⟩ := hp
    refine s_iald hC dX3_bundleGoes_78 ((fr_3_13 hq0).2) ho ?_
    refine x_aload_n hC dX3_bundleGoes_79 (lm 1 rfl) ?_
    refine s_getR (r := q0 + 4) hC dX3_bundleGoes_80 fk_3_21 hq0 (fr_3_14 hq0).1 ?_
    refine x_iload hC dX3_bundleGoes_83 (lm 0 rfl) ?_
    obtain ⟨ho, hp⟩ := hp
    refine s_iald hC dX3_bundleGoes_85 ((fr_3_14 hq0).2) ho ?_
    refine s_callVv (avs := [.int v_69, .int (h_69.1 (q0 + 3) v_36.toNatClampNeg), .int (h_69.1 (q0 + 4) v_36.toNatClampNeg)]) (st := []) hC dX3_bundleGoes_86 ml_3_104 mi_X2_bind hq1 rfl (t_X2_bind hq1 hp) (Nat.le_of_ble_eq_true rfl) ⟨rfl, rfl⟩ ⟨Nat.le_of_ble_eq_true rfl, Nat.le_of_ble_eq_true rfl⟩ (fun h_86 hp => ?_)
    refine x_iinc (u := i3 + 1) (lv' := [(3, .int (i3 + 1)), (4, .int v_36), (0, .ref q0), (1, .ref q1), (2, .int i2)]) hC dX3_bundleGoes_89 (lm 4 rfl) (congrArg _ ic_1) (by decide) rfl ?_
    refine x_goto (tgt := 2) hC dX3_bundleGoes_92 (by decide) ?_
    exact x_subk [2, 3, 4, 0] rfl (hX_2 _ _ hp)
set_option maxHeartbeats 4000000 in
theorem t_X3_bundleGoes {q0 : Nat} {q1 : Nat} {i2 : Int32} {h : HP} {Q : HP → Prop} (hq0 : Ty gC q0 3 0) (hq1 : Ty gC q1 2 0) (hp : P_X3_bundleGoes q0 q1 i2 h Q) : MT yX3_bundleGoes cX3_bundleGoes 5 none rm_X3_bundleGoes [.ref q0, .ref q1, .int i2] gC SH (emb h) (pV Q) := by
  refine MT.of (by decide +kernel) (Nat.le_of_ble_eq_true rfl) (fun C hC hE => ?_)
  show SW C gC 0 [(0, .ref q0), (1, .ref q1), (2, .int i2)] [] h
  unfold P_X3_bundleGoes at hp
  refine x_iconst hC dX3_bundleGoes_0 ic_0 ?_
  refine x_istore_n (lv' := [(3, .int 0), (0, .ref q0), (1, .ref q1), (2, .int i2)]) hC dX3_bundleGoes_1 (by decide) rfl ?_
  refine x_subk (lv' := [(0, .ref q0), (1, .ref q1), (2, .int i2), (3, .int 0)]) [1, 2, 3, 0] rfl ?_
  refine hp (fun i3_2 h_2 => SW C gC 2 [(0, .ref q0), (1, .ref q1), (2, .int i2), (3, .int i3_2)] [] h_2) (fun i3_2 h_2 hp => ?_)
  refine x_iload_n hC dX3_bundleGoes_2 (lm 3 rfl) ?_
  refine x_aload_n hC dX3_bundleGoes_3 (lm 0 rfl) ?_
  refine s_getI hC dX3_bundleGoes_4 fk_3_67 hq0 ?_
  refine x_icmp_ge (tgt := 95) hC dX3_bundleGoes_7 (by decide) (fun hc => ?_) (fun hc => ?_)
  · have hp := hp.1 hc
    refine x_aload_n hC dX3_bundleGoes_95 (lm 0 rfl) ?_
    refine x_iconst hC dX3_bundleGoes_96 ic_1 ?_
    refine s_putZ hC dX3_bundleGoes_97 fk_3_51 rfl rfl (Or.inr rfl) hq0 ?_
    refine x_aload_n hC dX3_bundleGoes_100 (lm 0 rfl) ?_
    refine x_iconst hC dX3_bundleGoes_101 ic_0 ?_
    refine s_putZ hC dX3_bundleGoes_102 fk_3_58 rfl rfl (Or.inl rfl) hq0 ?_
    exact x_vret hC hE dX3_bundleGoes_105 ⟨_, rfl, rfl, hp⟩
  · have hp := hp.2 hc
    refine x_aload_n hC dX3_bundleGoes_10 (lm 1 rfl) ?_
    refine s_getI hC dX3_bundleGoes_11 fk_3_93 hq1 ?_
    refine x_iload_n hC dX3_bundleGoes_14 (lm 2 rfl) ?_
    refine x_icmp_ge (tgt := 95) hC dX3_bundleGoes_15 (by decide) (fun hc => ?_) (fun hc => ?_)
    · have hp := hp.1 hc
      refine x_aload_n hC dX3_bundleGoes_95 (lm 0 rfl) ?_
      refine x_iconst hC dX3_bundleGoes_96 ic_1 ?_
      refine s_putZ hC dX3_bundleGoes_97 fk_3_51 rfl rfl (Or.inr rfl) hq0 ?_
      refine x_aload_n hC dX3_bundleGoes_100 (lm 0 rfl) ?_
      refine x_iconst hC dX3_bundleGoes_101 ic_0 ?_
      refine s_putZ hC dX3_bundleGoes_102 fk_3_58 rfl rfl (Or.inl rfl) hq0 ?_
      exact x_vret hC hE dX3_bundleGoes_105 ⟨_, rfl, rfl, hp⟩
    · have hp := hp.2 hc
      refine x_iload_n hC dX3_bundleGoes_18 (lm 3 rfl) ?_
      refine x_aload_n hC dX3_bundleGoes_19 (lm 0 rfl) ?_
      refine s_callVi (avs := []) (st := [.int i3_2]) hC dX3_bundleGoes_20 ml_3_74 mi_X3_spread hq0 rfl (t_X3_spread hq0 hp) (Nat.le_of_ble_eq_true rfl) ⟨rfl, rfl⟩ ⟨Nat.le_of_ble_eq_true rfl, Nat.le_of_ble_eq_true rfl⟩ (fun v_20 h_20 hp => ?_)
      refine x_icmp_lt (tgt := 30) hC dX3_bundleGoes_23 (by decide) (fun hc => ?_) (fun hc => ?_)
      · have hp := hp.1 hc
        exact x_subk [0, 1, 2, 3] rfl (l_X3_bundleGoes_j30 hC hE hq0 hq1 (fun _ _ hp => hp) hp)
      · have hp := hp.2 hc
        refine x_aload_n hC dX3_bundleGoes_26 (lm 0 rfl) ?_
        refine s_callVv (avs := []) (st := []) hC dX3_bundleGoes_27 ml_3_98 mi_X3_giveNext hq0 rfl (t_X3_giveNext hq0 hp) (Nat.le_of_ble_eq_true rfl) ⟨rfl, rfl⟩ ⟨Nat.le_of_ble_eq_true rfl, Nat.le_of_ble_eq_true rfl⟩ (fun h_27 hp => ?_)
        exact x_subk [0, 1, 2, 3] rfl (l_X3_bundleGoes_j30 hC hE hq0 hq1 (fun _ _ hp => hp) hp)
theorem dX3_barGoes_0 : decode cX3_barGoes 0 = .ok (.aload_n 0, 1) := by decide +kernel
theorem dX3_barGoes_1 : decode cX3_barGoes 1 = .ok (.iconst 1, 1) := by decide +kernel
theorem dX3_barGoes_2 : decode cX3_barGoes 2 = .ok (.putfield 51, 3) := by decide +kernel
theorem dX3_barGoes_5 : decode cX3_barGoes 5 = .ok (.aload_n 0, 1) := by decide +kernel
theorem dX3_barGoes_6 : decode cX3_barGoes 6 = .ok (.iconst 0, 1) := by decide +kernel
theorem dX3_barGoes_7 : decode cX3_barGoes 7 = .ok (.putfield 55, 3) := by decide +kernel
theorem dX3_barGoes_10 : decode cX3_barGoes 10 = .ok (.aload_n 0, 1) := by decide +kernel
theorem dX3_barGoes_11 : decode cX3_barGoes 11 = .ok (.iconst 1, 1) := by decide +kernel
theorem dX3_barGoes_12 : decode cX3_barGoes 12 = .ok (.putfield 58, 3) := by decide +kernel
theorem dX3_barGoes_15 : decode cX3_barGoes 15 = .ok (.return_, 1) := by decide +kernel
abbrev rm_X3_barGoes : Room := { frames := 0, cells := 0, slots := 0, locals := 0 }
def P_X3_barGoes (q0 : Nat) (h : HP) (Q : HP → Prop) : Prop := Q (si (si (si h q0 8 1) q0 9 0) q0 10 1)
set_option maxHeartbeats 4000000 in
theorem t_X3_barGoes {q0 : Nat} {h : HP} {Q : HP → Prop} (hq0 : Ty gC q0 3 0) (hp : P_X3_barGoes q0 h Q) : MT yX3_barGoes cX3_barGoes 1 none rm_X3_barGoes [.ref q0] gC SH (emb h) (pV Q) := by
  refine MT.of (by decide +kernel) (Nat.le_of_ble_eq_true rfl) (fun C hC hE => ?_)
  show SW C gC 0 [(0, .ref q0)] [] h
  unfold P_X3_barGoes at hp
  refine x_aload_n hC dX3_barGoes_0 (lm 0 rfl) ?_
  refine x_iconst hC dX3_barGoes_1 ic_1 ?_
  refine s_putZ hC dX3_barGoes_2 fk_3_51 rfl rfl (Or.inr rfl) hq0 ?_
  refine x_aload_n hC dX3_barGoes_5 (lm 0 rfl) ?_
  refine x_iconst hC dX3_barGoes_6 ic_0 ?_
  refine s_putZ hC dX3_barGoes_7 fk_3_55 rfl rfl (Or.inl rfl) hq0 ?_
  refine x_aload_n hC dX3_barGoes_10 (lm 0 rfl) ?_
  refine x_iconst hC dX3_barGoes_11 ic_1 ?_
  refine s_putZ hC dX3_barGoes_12 fk_3_58 rfl rfl (Or.inr rfl) hq0 ?_
  exact x_vret hC hE dX3_barGoes_15 ⟨_, rfl, rfl, hp⟩
theorem dX3_giveUp_0 : decode cX3_giveUp 0 = .ok (.aload_n 0, 1) := by decide +kernel
theorem dX3_giveUp_1 : decode cX3_giveUp 1 = .ok (.invokevirtual 74, 3) := by decide +kernel
theorem dX3_giveUp_4 : decode cX3_giveUp 4 = .ok (.istore_n 1, 1) := by decide +kernel
theorem dX3_giveUp_5 : decode cX3_giveUp 5 = .ok (.iconst 0, 1) := by decide +kernel
theorem dX3_giveUp_6 : decode cX3_giveUp 6 = .ok (.istore_n 2, 1) := by decide +kernel
theorem dX3_giveUp_7 : decode cX3_giveUp 7 = .ok (.iload_n 2, 1) := by decide +kernel
theorem dX3_giveUp_8 : decode cX3_giveUp 8 = .ok (.iload_n 1, 1) := by decide +kernel
theorem dX3_giveUp_9 : decode cX3_giveUp 9 = .ok (.if_icmp .ge 76, 3) := by decide +kernel
theorem dX3_giveUp_12 : decode cX3_giveUp 12 = .ok (.aload_n 0, 1) := by decide +kernel
theorem dX3_giveUp_13 : decode cX3_giveUp 13 = .ok (.getfield 39, 3) := by decide +kernel
theorem dX3_giveUp_16 : decode cX3_giveUp 16 = .ok (.iload_n 2, 1) := by decide +kernel
theorem dX3_giveUp_17 : decode cX3_giveUp 17 = .ok (.iadd, 1) := by decide +kernel
theorem dX3_giveUp_18 : decode cX3_giveUp 18 = .ok (.invokestatic 82, 3) := by decide +kernel
theorem dX3_giveUp_21 : decode cX3_giveUp 21 = .ok (.istore_n 3, 1) := by decide +kernel
theorem dX3_giveUp_22 : decode cX3_giveUp 22 = .ok (.aload_n 0, 1) := by decide +kernel
theorem dX3_giveUp_23 : decode cX3_giveUp 23 = .ok (.getfield 27, 3) := by decide +kernel
theorem dX3_giveUp_26 : decode cX3_giveUp 26 = .ok (.iload_n 3, 1) := by decide +kernel
theorem dX3_giveUp_27 : decode cX3_giveUp 27 = .ok (.baload, 1) := by decide +kernel
theorem dX3_giveUp_28 : decode cX3_giveUp 28 = .ok (.ifCond .ne 51, 3) := by decide +kernel
theorem dX3_giveUp_31 : decode cX3_giveUp 31 = .ok (.aload_n 0, 1) := by decide +kernel
theorem dX3_giveUp_32 : decode cX3_giveUp 32 = .ok (.getfield 24, 3) := by decide +kernel
theorem dX3_giveUp_35 : decode cX3_giveUp 35 = .ok (.iload_n 3, 1) := by decide +kernel
theorem dX3_giveUp_36 : decode cX3_giveUp 36 = .ok (.iaload, 1) := by decide +kernel
theorem dX3_giveUp_37 : decode cX3_giveUp 37 = .ok (.aload_n 0, 1) := by decide +kernel
theorem dX3_giveUp_38 : decode cX3_giveUp 38 = .ok (.getfield 64, 3) := by decide +kernel
theorem dX3_giveUp_41 : decode cX3_giveUp 41 = .ok (.if_icmp .lt 38, 3) := by decide +kernel
theorem dX3_giveUp_44 : decode cX3_giveUp 44 = .ok (.aload_n 0, 1) := by decide +kernel
theorem dX3_giveUp_45 : decode cX3_giveUp 45 = .ok (.getfield 27, 3) := by decide +kernel
theorem dX3_giveUp_48 : decode cX3_giveUp 48 = .ok (.iload_n 3, 1) := by decide +kernel
theorem dX3_giveUp_49 : decode cX3_giveUp 49 = .ok (.iconst 1, 1) := by decide +kernel
theorem dX3_giveUp_50 : decode cX3_giveUp 50 = .ok (.bastore, 1) := by decide +kernel
theorem dX3_giveUp_51 : decode cX3_giveUp 51 = .ok (.aload_n 0, 1) := by decide +kernel
theorem dX3_giveUp_52 : decode cX3_giveUp 52 = .ok (.iconst 1, 1) := by decide +kernel
theorem dX3_giveUp_53 : decode cX3_giveUp 53 = .ok (.putfield 55, 3) := by decide +kernel
theorem dX3_giveUp_56 : decode cX3_giveUp 56 = .ok (.aload_n 0, 1) := by decide +kernel
theorem dX3_giveUp_57 : decode cX3_giveUp 57 = .ok (.dup, 1) := by decide +kernel
theorem dX3_giveUp_58 : decode cX3_giveUp 58 = .ok (.getfield 48, 3) := by decide +kernel
theorem dX3_giveUp_61 : decode cX3_giveUp 61 = .ok (.iconst 1, 1) := by decide +kernel
theorem dX3_giveUp_62 : decode cX3_giveUp 62 = .ok (.iadd, 1) := by decide +kernel
theorem dX3_giveUp_63 : decode cX3_giveUp 63 = .ok (.putfield 48, 3) := by decide +kernel
theorem dX3_giveUp_66 : decode cX3_giveUp 66 = .ok (.aload_n 0, 1) := by decide +kernel
theorem dX3_giveUp_67 : decode cX3_giveUp 67 = .ok (.getfield 31, 3) := by decide +kernel
theorem dX3_giveUp_70 : decode cX3_giveUp 70 = .ok (.dup, 1) := by decide +kernel
theorem dX3_giveUp_71 : decode cX3_giveUp 71 = .ok (.getfield 111, 3) := by decide +kernel
theorem dX3_giveUp_74 : decode cX3_giveUp 74 = .ok (.iconst 1, 1) := by decide +kernel
theorem dX3_giveUp_75 : decode cX3_giveUp 75 = .ok (.iadd, 1) := by decide +kernel
theorem dX3_giveUp_76 : decode cX3_giveUp 76 = .ok (.putfield 111, 3) := by decide +kernel
theorem dX3_giveUp_79 : decode cX3_giveUp 79 = .ok (.iinc 2 1, 3) := by decide +kernel
theorem dX3_giveUp_82 : decode cX3_giveUp 82 = .ok (.goto (-75), 3) := by decide +kernel
theorem dX3_giveUp_85 : decode cX3_giveUp 85 = .ok (.iconst 0, 1) := by decide +kernel
theorem dX3_giveUp_86 : decode cX3_giveUp 86 = .ok (.istore_n 2, 1) := by decide +kernel
theorem dX3_giveUp_87 : decode cX3_giveUp 87 = .ok (.iload_n 2, 1) := by decide +kernel
theorem dX3_giveUp_88 : decode cX3_giveUp 88 = .ok (.iload_n 1, 1) := by decide +kernel
theorem dX3_giveUp_89 : decode cX3_giveUp 89 = .ok (.if_icmp .ge 37, 3) := by decide +kernel
theorem dX3_giveUp_92 : decode cX3_giveUp 92 = .ok (.aload_n 0, 1) := by decide +kernel
theorem dX3_giveUp_93 : decode cX3_giveUp 93 = .ok (.getfield 27, 3) := by decide +kernel
theorem dX3_giveUp_96 : decode cX3_giveUp 96 = .ok (.aload_n 0, 1) := by decide +kernel
theorem dX3_giveUp_97 : decode cX3_giveUp 97 = .ok (.getfield 39, 3) := by decide +kernel
theorem dX3_giveUp_100 : decode cX3_giveUp 100 = .ok (.invokestatic 82, 3) := by decide +kernel
theorem dX3_giveUp_103 : decode cX3_giveUp 103 = .ok (.baload, 1) := by decide +kernel
theorem dX3_giveUp_104 : decode cX3_giveUp 104 = .ok (.ifCond .eq 22, 3) := by decide +kernel
theorem dX3_giveUp_107 : decode cX3_giveUp 107 = .ok (.aload_n 0, 1) := by decide +kernel
theorem dX3_giveUp_108 : decode cX3_giveUp 108 = .ok (.aload_n 0, 1) := by decide +kernel
theorem dX3_giveUp_109 : decode cX3_giveUp 109 = .ok (.getfield 39, 3) := by decide +kernel
theorem dX3_giveUp_112 : decode cX3_giveUp 112 = .ok (.iconst 1, 1) := by decide +kernel
theorem dX3_giveUp_113 : decode cX3_giveUp 113 = .ok (.iadd, 1) := by decide +kernel
theorem dX3_giveUp_114 : decode cX3_giveUp 114 = .ok (.invokestatic 101, 3) := by decide +kernel
theorem dX3_giveUp_117 : decode cX3_giveUp 117 = .ok (.putfield 39, 3) := by decide +kernel
theorem dX3_giveUp_120 : decode cX3_giveUp 120 = .ok (.iinc 2 1, 3) := by decide +kernel
theorem dX3_giveUp_123 : decode cX3_giveUp 123 = .ok (.goto (-36), 3) := by decide +kernel
theorem dX3_giveUp_126 : decode cX3_giveUp 126 = .ok (.return_, 1) := by decide +kernel
abbrev rm_X3_giveUp : Room := { frames := 2, cells := 0, slots := 0, locals := 41 }
def P_X3_giveUp (q0 : Nat) (h : HP) (Q : HP → Prop) : Prop := P_X3_spread q0 h (fun (v_1 : Int32) (h_1 : HP) => Lp2 (fun X_7 (i2_7 : Int32) (h_7 : HP) => ((v_1 ≤ i2_7) → (Lp2 (fun X_87 (i2_87 : Int32) (h_87 : HP) => ((v_1 ≤ i2_87) → Q h_87) ∧ ((¬ v_1 ≤ i2_87) → (P_X8_slot (h_87.1 q0 4) h_87 (fun (v_100 : Int32) (h_100 : HP) => (vp_in v_100 16) ∧ ((((h_100.1 (q0 + 6) v_100.toNatClampNeg) = 0) → Q h_100) ∧ ((¬ (h_100.1 (q0 + 6) v_100.toNatClampNeg) = 0) → (P_X8_round ((h_100.1 q0 4) + 1) h_100 (fun (v_114 : Int32) (h_114 : HP) => X_87 (i2_87 + 1) (si h_114 q0 4 v_114))))))))) 0 h_7)) ∧ ((¬ v_1 ≤ i2_7) → (P_X8_slot ((h_7.1 q0 4) + i2_7) h_7 (fun (v_18 : Int32) (h_18 : HP) => (vp_in v_18 16) ∧ (((¬ (h_18.1 (q0 + 6) v_18.toNatClampNeg) = 0) → (X_7 (i2_7 + 1) h_18)) ∧ (((h_18.1 (q0 + 6) v_18.toNatClampNeg) = 0) → ((vp_in v_18 16) ∧ ((((h_18.1 (q0 + 5) v_18.toNatClampNeg) < (h_18.1 q0 3)) → (X_7 (i2_7 + 1) h_18)) ∧ ((¬ (h_18.1 (q0 + 5) v_18.toNatClampNeg) < (h_18.1 q0 3)) → ((vp_in v_18 16) ∧ (X_7 (i2_7 + 1) (si (si (si (si h_18 (q0 + 6) v_18.toNatClampNeg 1) q0 9 1) q0 7 (((si (si h_18 (q0 + 6) v_18.toNatClampNeg 1) q0 9 1).1 q0 7) + 1)) 4 6 (((si (si (si h_18 (q0 + 6) v_18.toNatClampNeg 1) q0 9 1) q0 7 (((si (si h_18 (q0 + 6) v_18.toNatClampNeg 1) q0 9 1).1 q0 7) + 1)).1 4 6) + 1))))))))))))) 0 h_1)
set_option maxHeartbeats 4000000 in
theorem t_X3_giveUp {q0 : Nat} {h : HP} {Q : HP → Prop} (hq0 : Ty gC q0 3 0) (hp : P_X3_giveUp q0 h Q) : MT yX3_giveUp cX3_giveUp 4 none rm_X3_giveUp [.ref q0] gC SH (emb h) (pV Q) := by
  refine MT.of (by decide +kernel) (Nat.le_of_ble_eq_true rfl) (fun C hC hE => ?_)
  show SW C gC 0 [(0, .ref q0)] [] h
  unfold P_X3_giveUp at hp
  refine x_aload_n hC dX3_giveUp_0 (lm 0 rfl) ?_
  refine s_callVi (avs := []) (st := []) hC dX3_giveUp_1 ml_3_74 mi_X3_spread hq0 rfl (t_X3_spread hq0 hp) (Nat.le_of_ble_eq_true rfl) ⟨rfl, rfl⟩ ⟨Nat.le_of_ble_eq_true rfl, Nat.le_of_ble_eq_true rfl⟩ (fun v_1 h_1 hp => ?_)
  refine x_istore_n (lv' := [(1, .int v_1), (0, .ref q0)]) hC dX3_giveUp_4 (by decide) rfl ?_
  refine x_iconst hC dX3_giveUp_5 ic_0 ?_
  refine x_istore_n (lv' := [(2, .int 0), (1, .int v_1), (0, .ref q0)]) hC dX3_giveUp_6 (by decide) rfl ?_
  refine x_subk (lv' := [(0, .ref q0), (1, .int v_1), (2, .int 0)]) [2, 1, 0] rfl ?_
  refine hp (fun i2_7 h_7 => SW C gC 7 [(0, .ref q0), (1, .int v_1), (2, .int i2_7)] [] h_7) (fun i2_7 h_7 hp => ?_)
  refine x_iload_n hC dX3_giveUp_7 (lm 2 rfl) ?_
  refine x_iload_n hC dX3_giveUp_8 (lm 1 rfl) ?_
  refine x_icmp_ge (tgt := 85) hC dX3_giveUp_9 (by decide) (fun hc => ?_) (fun hc => ?_)
  · have hp := hp.1 hc
    refine x_iconst hC dX3_giveUp_85 ic_0 ?_
    refine x_istore_n (lv' := [(2, .int 0), (0, .ref q0), (1, .int v_1)]) hC dX3_giveUp_86 (by decide) rfl ?_
    refine x_subk (lv' := [(0, .ref q0), (1, .int v_1), (2, .int 0)]) [1, 2, 0] rfl ?_
    refine hp (fun i2_87 h_87 => SW C gC 87 [(0, .ref q0), (1, .int v_1), (2, .int i2_87)] [] h_87) (fun i2_87 h_87 hp => ?_)
    refine x_iload_n hC dX3_giveUp_87 (lm 2 rfl) ?_
    refine x_iload_n hC dX3_giveUp_88 (lm 1 rfl) ?_
    refine x_icmp_ge (tgt := 126) hC dX3_giveUp_89 (by decide) (fun hc => ?_) (fun hc => ?_)
    · have hp := hp.1 hc
      exact x_vret hC hE dX3_giveUp_126 ⟨_, rfl, rfl, hp⟩
    · have hp := hp.2 hc
      refine x_aload_n hC dX3_giveUp_92 (lm 0 rfl) ?_
      refine s_getR (r := q0 + 6) hC dX3_giveUp_93 fk_3_27 hq0 (fr_3_16 hq0).1 ?_
      refine x_aload_n hC dX3_giveUp_96 (lm 0 rfl) ?_
      refine s_getI hC dX3_giveUp_97 fk_3_39 hq0 ?_
      refine s_callNi (avs := [.int (h_87.1 q0 4)]) (st := [.ref (q0 + 6)]) hC dX3_giveUp_100 nl_3_82 ms_X8_slot rfl (t_X8_slot  hp) (Nat.le_of_ble_eq_true rfl) ⟨rfl, rfl⟩ ⟨Nat.le_of_ble_eq_true rfl, Nat.le_of_ble_eq_true rfl⟩ (fun v_100 h_100 hp => ?_)
      obtain ⟨ho, hp⟩ := hp
      refine s_zald hC dX3_giveUp_103 ((fr_3_16 hq0).2) ho ?_
      refine x_if_eq (tgt := 126) hC dX3_giveUp_104 (by decide) (fun hc => ?_) (fun hc => ?_)
      · have hp := hp.1 hc
        exact x_vret hC hE dX3_giveUp_126 ⟨_, rfl, rfl, hp⟩
      · have hp := hp.2 hc
        refine x_aload_n hC dX3_giveUp_107 (lm 0 rfl) ?_
        refine x_aload_n hC dX3_giveUp_108 (lm 0 rfl) ?_
        refine s_getI hC dX3_giveUp_109 fk_3_39 hq0 ?_
        refine x_iconst hC dX3_giveUp_112 ic_1 ?_
        refine x_iadd hC dX3_giveUp_113 ?_
        refine s_callNi (avs := [.int ((h_100.1 q0 4) + 1)]) (st := [.ref q0]) hC dX3_giveUp_114 nl_3_101 ms_X8_round rfl (t_X8_round  hp) (Nat.le_of_ble_eq_true rfl) ⟨rfl, rfl⟩ ⟨Nat.le_of_ble_eq_true rfl, Nat.le_of_ble_eq_true rfl⟩ (fun v_114 h_114 hp => ?_)
        refine s_putI hC dX3_giveUp_117 fk_3_39 rfl rfl hq0 ?_
        refine x_iinc (u := i2_87 + 1) (lv' := [(2, .int (i2_87 + 1)), (0, .ref q0), (1, .int v_1)]) hC dX3_giveUp_120 (lm 2 rfl) (congrArg _ ic_1) (by decide) rfl ?_
        refine x_goto (tgt := 87) hC dX3_giveUp_123 (by decide) ?_
        exact x_subk [1, 2, 0] rfl hp
  · have hp := hp.2 hc
    refine x_aload_n hC dX3_giveUp_12 (lm 0 rfl) ?_
    refine s_getI hC dX3_giveUp_13 fk_3_39 hq0 ?_
    refine x_iload_n hC dX3_giveUp_16 (lm 2 rfl) ?_
    refine x_iadd hC dX3_giveUp_17 ?_
    refine s_callNi (avs := [.int ((h_7.1 q0 4) + i2_7)]) (st := []) hC dX3_giveUp_18 nl_3_82 ms_X8_slot rfl (t_X8_slot  hp) (Nat.le_of_ble_eq_true rfl) ⟨rfl, rfl⟩ ⟨Nat.le_of_ble_eq_true rfl, Nat.le_of_ble_eq_true rfl⟩ (fun v_18 h_18 hp => ?_)
    refine x_istore_n (lv' := [(3, .int v_18), (0, .ref q0), (1, .int v_1), (2, .int i2_7)]) hC dX3_giveUp_21 (by decide) rfl ?_
    refine x_aload_n hC dX3_giveUp_22 (lm 1 rfl) ?_
    refine s_getR (r := q0 + 6) hC dX3_giveUp_23 fk_3_27 hq0 (fr_3_16 hq0).1 ?_
    refine x_iload_n hC dX3_giveUp_26 (lm 0 rfl) ?_
    obtain ⟨ho, hp⟩ := hp
    refine s_zald hC dX3_giveUp_27 ((fr_3_16 hq0).2) ho ?_
    refine x_if_ne (tgt := 79) hC dX3_giveUp_28 (by decide) (fun hc => ?_) (fun hc => ?_)
    · have hp := hp.1 hc
      refine x_iinc (u := i2_7 + 1) (lv' := [(2, .int (i2_7 + 1)), (3, .int v_18), (0, .ref q0), (1, .int v_1)]) hC dX3_giveUp_79 (lm 3 rfl) (congrArg _ ic_1) (by decide) rfl ?_
      refine x_goto (tgt := 7) hC dX3_giveUp_82 (by decide) ?_
      exact x_subk [2, 3, 0] rfl hp
    · have hp := hp.2 hc
      refine x_aload_n hC dX3_giveUp_31 (lm 1 rfl) ?_
      refine s_getR (r := q0 + 5) hC dX3_giveUp_32 fk_3_24 hq0 (fr_3_15 hq0).1 ?_
      refine x_iload_n hC dX3_giveUp_35 (lm 0 rfl) ?_
      obtain ⟨ho, hp⟩ := hp
      refine s_iald hC dX3_giveUp_36 ((fr_3_15 hq0).2) ho ?_
      refine x_aload_n hC dX3_giveUp_37 (lm 1 rfl) ?_
      refine s_getI hC dX3_giveUp_38 fk_3_64 hq0 ?_
      refine x_icmp_lt (tgt := 79) hC dX3_giveUp_41 (by decide) (fun hc => ?_) (fun hc => ?_)
      · have hp := hp.1 hc
        refine x_iinc (u := i2_7 + 1) (lv' := [(2, .int (i2_7 + 1)), (3, .int v_18), (0, .ref q0), (1, .int v_1)]) hC dX3_giveUp_79 (lm 3 rfl) (congrArg _ ic_1) (by decide) rfl ?_
        refine x_goto (tgt := 7) hC dX3_giveUp_82 (by decide) ?_
        exact x_subk [2, 3, 0] rfl hp
      · have hp := hp.2 hc
        refine x_aload_n hC dX3_giveUp_44 (lm 1 rfl) ?_
        refine s_getR (r := q0 + 6) hC dX3_giveUp_45 fk_3_27 hq0 (fr_3_16 hq0).1 ?_
        refine x_iload_n hC dX3_giveUp_48 (lm 0 rfl) ?_
        refine x_iconst hC dX3_giveUp_49 ic_1 ?_
        obtain ⟨ho, hp⟩ := hp
        refine s_zast (y := 1) hC dX3_giveUp_50 ((fr_3_16 hq0).2) ho (by decide) ?_
        refine x_aload_n hC dX3_giveUp_51 (lm 1 rfl) ?_
        refine x_iconst hC dX3_giveUp_52 ic_1 ?_
        refine s_putZ hC dX3_giveUp_53 fk_3_55 rfl rfl (Or.inr rfl) hq0 ?_
        refine x_aload_n hC dX3_giveUp_56 (lm 1 rfl) ?_
        refine x_dup hC dX3_giveUp_57 rfl ?_
        refine s_getI hC dX3_giveUp_58 fk_3_48 hq0 ?_
        refine x_iconst hC dX3_giveUp_61 ic_1 ?_
        refine x_iadd hC dX3_giveUp_62 ?_
        refine s_putI hC dX3_giveUp_63 fk_3_48 rfl rfl hq0 ?_
        refine x_aload_n hC dX3_giveUp_66 (lm 1 rfl) ?_
        refine s_getR (r := 4) hC dX3_giveUp_67 fk_3_31 hq0 (fr_3_0 hq0).1 ?_
        refine x_dup hC dX3_giveUp_70 rfl ?_
        refine s_getI hC dX3_giveUp_71 fk_3_111 ty_4 ?_
        refine x_iconst hC dX3_giveUp_74 ic_1 ?_
        refine x_iadd hC dX3_giveUp_75 ?_
        refine s_putI hC dX3_giveUp_76 fk_3_111 rfl rfl ty_4 ?_
        refine x_iinc (u := i2_7 + 1) (lv' := [(2, .int (i2_7 + 1)), (3, .int v_18), (0, .ref q0), (1, .int v_1)]) hC dX3_giveUp_79 (lm 3 rfl) (congrArg _ ic_1) (by decide) rfl ?_
        refine x_goto (tgt := 7) hC dX3_giveUp_82 (by decide) ?_
        exact x_subk [2, 3, 0] rfl hp
theorem dX3_answered_0 : decode cX3_answered 0 = .ok (.aload_n 0, 1) := by decide +kernel
theorem dX3_answered_1 : decode cX3_answered 1 = .ok (.getfield 51, 3) := by decide +kernel
theorem dX3_answered_4 : decode cX3_answered 4 = .ok (.ifCond .ne 4, 3) := by decide +kernel
theorem dX3_answered_7 : decode cX3_answered 7 = .ok (.return_, 1) := by decide +kernel
theorem dX3_answered_8 : decode cX3_answered 8 = .ok (.aload_n 0, 1) := by decide +kernel
theorem dX3_answered_9 : decode cX3_answered 9 = .ok (.invokevirtual 74, 3) := by decide +kernel
theorem dX3_answered_12 : decode cX3_answered 12 = .ok (.istore_n 3, 1) := by decide +kernel
theorem dX3_answered_13 : decode cX3_answered 13 = .ok (.iconst 0, 1) := by decide +kernel
theorem dX3_answered_14 : decode cX3_answered 14 = .ok (.istore 4, 2) := by decide +kernel
theorem dX3_answered_16 : decode cX3_answered 16 = .ok (.iload 4, 2) := by decide +kernel
theorem dX3_answered_18 : decode cX3_answered 18 = .ok (.iload_n 3, 1) := by decide +kernel
theorem dX3_answered_19 : decode cX3_answered 19 = .ok (.if_icmp .ge 57, 3) := by decide +kernel
theorem dX3_answered_22 : decode cX3_answered 22 = .ok (.iload_n 1, 1) := by decide +kernel
theorem dX3_answered_23 : decode cX3_answered 23 = .ok (.aload_n 0, 1) := by decide +kernel
theorem dX3_answered_24 : decode cX3_answered 24 = .ok (.getfield 39, 3) := by decide +kernel
theorem dX3_answered_27 : decode cX3_answered 27 = .ok (.iload 4, 2) := by decide +kernel
theorem dX3_answered_29 : decode cX3_answered 29 = .ok (.iadd, 1) := by decide +kernel
theorem dX3_answered_30 : decode cX3_answered 30 = .ok (.invokestatic 70, 3) := by decide +kernel
theorem dX3_answered_33 : decode cX3_answered 33 = .ok (.istore 5, 2) := by decide +kernel
theorem dX3_answered_35 : decode cX3_answered 35 = .ok (.iload 5, 2) := by decide +kernel
theorem dX3_answered_37 : decode cX3_answered 37 = .ok (.aload_n 0, 1) := by decide +kernel
theorem dX3_answered_38 : decode cX3_answered 38 = .ok (.getfield 67, 3) := by decide +kernel
theorem dX3_answered_41 : decode cX3_answered 41 = .ok (.if_icmp .ge 29, 3) := by decide +kernel
theorem dX3_answered_44 : decode cX3_answered 44 = .ok (.iload_n 2, 1) := by decide +kernel
theorem dX3_answered_45 : decode cX3_answered 45 = .ok (.iload 5, 2) := by decide +kernel
theorem dX3_answered_47 : decode cX3_answered 47 = .ok (.ishr, 1) := by decide +kernel
theorem dX3_answered_48 : decode cX3_answered 48 = .ok (.iconst 1, 1) := by decide +kernel
theorem dX3_answered_49 : decode cX3_answered 49 = .ok (.iand, 1) := by decide +kernel
theorem dX3_answered_50 : decode cX3_answered 50 = .ok (.iconst 1, 1) := by decide +kernel
theorem dX3_answered_51 : decode cX3_answered 51 = .ok (.if_icmp .ne 19, 3) := by decide +kernel
theorem dX3_answered_54 : decode cX3_answered 54 = .ok (.aload_n 0, 1) := by decide +kernel
theorem dX3_answered_55 : decode cX3_answered 55 = .ok (.getfield 27, 3) := by decide +kernel
theorem dX3_answered_58 : decode cX3_answered 58 = .ok (.aload_n 0, 1) := by decide +kernel
theorem dX3_answered_59 : decode cX3_answered 59 = .ok (.getfield 39, 3) := by decide +kernel
theorem dX3_answered_62 : decode cX3_answered 62 = .ok (.iload 4, 2) := by decide +kernel
theorem dX3_answered_64 : decode cX3_answered 64 = .ok (.iadd, 1) := by decide +kernel
theorem dX3_answered_65 : decode cX3_answered 65 = .ok (.invokestatic 82, 3) := by decide +kernel
theorem dX3_answered_68 : decode cX3_answered 68 = .ok (.iconst 1, 1) := by decide +kernel
theorem dX3_answered_69 : decode cX3_answered 69 = .ok (.bastore, 1) := by decide +kernel
theorem dX3_answered_70 : decode cX3_answered 70 = .ok (.iinc 4 1, 3) := by decide +kernel
theorem dX3_answered_73 : decode cX3_answered 73 = .ok (.goto (-57), 3) := by decide +kernel
theorem dX3_answered_76 : decode cX3_answered 76 = .ok (.aload_n 0, 1) := by decide +kernel
theorem dX3_answered_77 : decode cX3_answered 77 = .ok (.invokevirtual 108, 3) := by decide +kernel
theorem dX3_answered_80 : decode cX3_answered 80 = .ok (.aload_n 0, 1) := by decide +kernel
theorem dX3_answered_81 : decode cX3_answered 81 = .ok (.iconst 0, 1) := by decide +kernel
theorem dX3_answered_82 : decode cX3_answered 82 = .ok (.putfield 51, 3) := by decide +kernel
theorem dX3_answered_85 : decode cX3_answered 85 = .ok (.return_, 1) := by decide +kernel
abbrev rm_X3_answered : Room := { frames := 3, cells := 0, slots := 0, locals := 64 }
def P_X3_answered (q0 : Nat) (i1 : Int32) (i2 : Int32) (h : HP) (Q : HP → Prop) : Prop := ((¬ (h.1 q0 8) = 0) → (P_X3_spread q0 h (fun (v_9 : Int32) (h_9 : HP) => Lp2 (fun X_16 (i4_16 : Int32) (h_16 : HP) => ((v_9 ≤ i4_16) → (P_X3_giveUp q0 h_16 (fun (h_77 : HP) => Q (si h_77 q0 8 0)))) ∧ ((¬ v_9 ≤ i4_16) → (P_X8_ahead i1 ((h_16.1 q0 4) + i4_16) h_16 (fun (v_30 : Int32) (h_30 : HP) => (((h_30.1 q0 2) ≤ v_30) → (X_16 (i4_16 + 1) h_30)) ∧ ((¬ (h_30.1 q0 2) ≤ v_30) → (((¬ ((i2 >>> (v_30 &&& 31)) &&& 1) = 1) → (X_16 (i4_16 + 1) h_30)) ∧ ((((i2 >>> (v_30 &&& 31)) &&& 1) = 1) → (P_X8_slot ((h_30.1 q0 4) + i4_16) h_30 (fun (v_65 : Int32) (h_65 : HP) => (vp_in v_65 16) ∧ (X_16 (i4_16 + 1) (si h_65 (q0 + 6) v_65.toNatClampNeg 1))))))))))) 0 h_9))) ∧ (((h.1 q0 8) = 0) → Q h)
set_option maxHeartbeats 4000000 in
theorem t_X3_answered {q0 : Nat} {i1 : Int32} {i2 : Int32} {h : HP} {Q : HP → Prop} (hq0 : Ty gC q0 3 0) (hp : P_X3_answered q0 i1 i2 h Q) : MT yX3_answered cX3_answered 6 none rm_X3_answered [.ref q0, .int i1, .int i2] gC SH (emb h) (pV Q) := by
  refine MT.of (by decide +kernel) (Nat.le_of_ble_eq_true rfl) (fun C hC hE => ?_)
  show SW C gC 0 [(0, .ref q0), (1, .int i1), (2, .int i2)] [] h
  unfold P_X3_answered at hp
  refine x_aload_n hC dX3_answered_0 (lm 0 rfl) ?_
  refine s_getZ hC dX3_answered_1 fk_3_51 hq0 ?_
  refine x_if_ne (tgt := 8) hC dX3_answered_4 (by decide) (fun hc => ?_) (fun hc => ?_)
  · have hp := hp.1 hc
    refine x_aload_n hC dX3_answered_8 (lm 0 rfl) ?_
    refine s_callVi (avs := []) (st := []) hC dX3_answered_9 ml_3_74 mi_X3_spread hq0 rfl (t_X3_spread hq0 hp) (Nat.le_of_ble_eq_true rfl) ⟨rfl, rfl⟩ ⟨Nat.le_of_ble_eq_true rfl, Nat.le_of_ble_eq_true rfl⟩ (fun v_9 h_9 hp => ?_)
    refine x_istore_n (lv' := [(3, .int v_9), (0, .ref q0), (1, .int i1), (2, .int i2)]) hC dX3_answered_12 (by decide) rfl ?_
    refine x_iconst hC dX3_answered_13 ic_0 ?_
    refine x_istore (lv' := [(4, .int 0), (3, .int v_9), (0, .ref q0), (1, .int i1), (2, .int i2)]) hC dX3_answered_14 (by decide) rfl ?_
    refine x_subk (lv' := [(0, .ref q0), (1, .int i1), (2, .int i2), (3, .int v_9), (4, .int 0)]) [2, 3, 4, 1, 0] rfl ?_
    refine hp (fun i4_16 h_16 => SW C gC 16 [(0, .ref q0), (1, .int i1), (2, .int i2), (3, .int v_9), (4, .int i4_16)] [] h_16) (fun i4_16 h_16 hp => ?_)
    refine x_iload hC dX3_answered_16 (lm 4 rfl) ?_
    refine x_iload_n hC dX3_answered_18 (lm 3 rfl) ?_
    refine x_icmp_ge (tgt := 76) hC dX3_answered_19 (by decide) (fun hc => ?_) (fun hc => ?_)
    · have hp := hp.1 hc
      refine x_aload_n hC dX3_answered_76 (lm 0 rfl) ?_
      refine s_callVv (avs := []) (st := []) hC dX3_answered_77 ml_3_108 mi_X3_giveUp hq0 rfl (t_X3_giveUp hq0 hp) (Nat.le_of_ble_eq_true rfl) ⟨rfl, rfl⟩ ⟨Nat.le_of_ble_eq_true rfl, Nat.le_of_ble_eq_true rfl⟩ (fun h_77 hp => ?_)
      refine x_aload_n hC dX3_answered_80 (lm 0 rfl) ?_
      refine x_iconst hC dX3_answered_81 ic_0 ?_
      refine s_putZ hC dX3_answered_82 fk_3_51 rfl rfl (Or.inl rfl) hq0 ?_
      exact x_vret hC hE dX3_answered_85 ⟨_, rfl, rfl, hp⟩
    · have hp := hp.2 hc
      refine x_iload_n hC dX3_answered_22 (lm 1 rfl) ?_
      refine x_aload_n hC dX3_answered_23 (lm 0 rfl) ?_
      refine s_getI hC dX3_answered_24 fk_3_39 hq0 ?_
      refine x_iload hC dX3_answered_27 (lm 4 rfl) ?_
      refine x_iadd hC dX3_answered_29 ?_
      refine s_callNi (avs := [.int i1, .int ((h_16.1 q0 4) + i4_16)]) (st := []) hC dX3_answered_30 nl_3_70 ms_X8_ahead rfl (t_X8_ahead  hp) (Nat.le_of_ble_eq_true rfl) ⟨rfl, rfl⟩ ⟨Nat.le_of_ble_eq_true rfl, Nat.le_of_ble_eq_true rfl⟩ (fun v_30 h_30 hp => ?_)
      refine x_istore (lv' := [(5, .int v_30), (0, .ref q0), (1, .int i1), (2, .int i2), (3, .int v_9), (4, .int i4_16)]) hC dX3_answered_33 (by decide) rfl ?_
      refine x_iload hC dX3_answered_35 (lm 0 rfl) ?_
      refine x_aload_n hC dX3_answered_37 (lm 1 rfl) ?_
      refine s_getI hC dX3_answered_38 fk_3_67 hq0 ?_
      refine x_icmp_ge (tgt := 70) hC dX3_answered_41 (by decide) (fun hc => ?_) (fun hc => ?_)
      · have hp := hp.1 hc
        refine x_iinc (u := i4_16 + 1) (lv' := [(4, .int (i4_16 + 1)), (5, .int v_30), (0, .ref q0), (1, .int i1), (2, .int i2), (3, .int v_9)]) hC dX3_answered_70 (lm 5 rfl) (congrArg _ ic_1) (by decide) rfl ?_
        refine x_goto (tgt := 16) hC dX3_answered_73 (by decide) ?_
        exact x_subk [2, 3, 4, 5, 0] rfl hp
      · have hp := hp.2 hc
        refine x_iload_n hC dX3_answered_44 (lm 3 rfl) ?_
        refine x_iload hC dX3_answered_45 (lm 0 rfl) ?_
        refine x_ishr hC dX3_answered_47 ?_
        refine x_iconst hC dX3_answered_48 ic_1 ?_
        refine x_iand hC dX3_answered_49 ?_
        refine x_iconst hC dX3_answered_50 ic_1 ?_
        refine x_icmp_ne (tgt := 70) hC dX3_answered_51 (by decide) (fun hc => ?_) (fun hc => ?_)
        · have hp := hp.1 hc
          refine x_iinc (u := i4_16 + 1) (lv' := [(4, .int (i4_16 + 1)), (5, .int v_30), (0, .ref q0), (1, .int i1), (2, .int i2), (3, .int v_9)]) hC dX3_answered_70 (lm 5 rfl) (congrArg _ ic_1) (by decide) rfl ?_
          refine x_goto (tgt := 16) hC dX3_answered_73 (by decide) ?_
          exact x_subk [2, 3, 4, 5, 0] rfl hp
        · have hp := hp.2 hc
          refine x_aload_n hC dX3_answered_54 (lm 1 rfl) ?_
          refine s_getR (r := q0 + 6) hC dX3_answered_55 fk_3_27 hq0 (fr_3_16 hq0).1 ?_
          refine x_aload_n hC dX3_answered_58 (lm 1 rfl) ?_
          refine s_getI hC dX3_answered_59 fk_3_39 hq0 ?_
          refine x_iload hC dX3_answered_62 (lm 5 rfl) ?_
          refine x_iadd hC dX3_answered_64 ?_
          refine s_callNi (avs := [.int ((h_30.1 q0 4) + i4_16)]) (st := [.ref (q0 + 6)]) hC dX3_answered_65 nl_3_82 ms_X8_slot rfl (t_X8_slot  hp) (Nat.le_of_ble_eq_true rfl) ⟨rfl, rfl⟩ ⟨Nat.le_of_ble_eq_true rfl, Nat.le_of_ble_eq_true rfl⟩ (fun v_65 h_65 hp => ?_)
          refine x_iconst hC dX3_answered_68 ic_1 ?_
          obtain ⟨ho, hp⟩ := hp
          refine s_zast (y := 1) hC dX3_answered_69 ((fr_3_16 hq0).2) ho (by decide) ?_
          refine x_iinc (u := i4_16 + 1) (lv' := [(4, .int (i4_16 + 1)), (5, .int v_30), (0, .ref q0), (1, .int i1), (2, .int i2), (3, .int v_9)]) hC dX3_answered_70 (lm 5 rfl) (congrArg _ ic_1) (by decide) rfl ?_
          refine x_goto (tgt := 16) hC dX3_answered_73 (by decide) ?_
          exact x_subk [2, 3, 4, 5, 0] rfl hp
  · have hp := hp.2 hc
    exact x_vret hC hE dX3_answered_7 ⟨_, rfl, rfl, hp⟩
theorem dX3_waitNoLonger_0 : decode cX3_waitNoLonger 0 = .ok (.aload_n 0, 1) := by decide +kernel
theorem dX3_waitNoLonger_1 : decode cX3_waitNoLonger 1 = .ok (.invokevirtual 108, 3) := by decide +kernel
theorem dX3_waitNoLonger_4 : decode cX3_waitNoLonger 4 = .ok (.aload_n 0, 1) := by decide +kernel
theorem dX3_waitNoLonger_5 : decode cX3_waitNoLonger 5 = .ok (.iconst 0, 1) := by decide +kernel
theorem dX3_waitNoLonger_6 : decode cX3_waitNoLonger 6 = .ok (.putfield 51, 3) := by decide +kernel
theorem dX3_waitNoLonger_9 : decode cX3_waitNoLonger 9 = .ok (.aload_n 0, 1) := by decide +kernel
theorem dX3_waitNoLonger_10 : decode cX3_waitNoLonger 10 = .ok (.aload_n 0, 1) := by decide +kernel
theorem dX3_waitNoLonger_11 : decode cX3_waitNoLonger 11 = .ok (.getfield 55, 3) := by decide +kernel
theorem dX3_waitNoLonger_14 : decode cX3_waitNoLonger 14 = .ok (.ifCond .ne 10, 3) := by decide +kernel
theorem dX3_waitNoLonger_17 : decode cX3_waitNoLonger 17 = .ok (.aload_n 0, 1) := by decide +kernel
theorem dX3_waitNoLonger_18 : decode cX3_waitNoLonger 18 = .ok (.getfield 58, 3) := by decide +kernel
theorem dX3_waitNoLonger_21 : decode cX3_waitNoLonger 21 = .ok (.ifCond .eq 7, 3) := by decide +kernel
theorem dX3_waitNoLonger_24 : decode cX3_waitNoLonger 24 = .ok (.iconst 1, 1) := by decide +kernel
theorem dX3_waitNoLonger_25 : decode cX3_waitNoLonger 25 = .ok (.goto 4, 3) := by decide +kernel
theorem dX3_waitNoLonger_28 : decode cX3_waitNoLonger 28 = .ok (.iconst 0, 1) := by decide +kernel
theorem dX3_waitNoLonger_29 : decode cX3_waitNoLonger 29 = .ok (.putfield 55, 3) := by decide +kernel
theorem dX3_waitNoLonger_32 : decode cX3_waitNoLonger 32 = .ok (.return_, 1) := by decide +kernel
abbrev rm_X3_waitNoLonger : Room := { frames := 3, cells := 0, slots := 0, locals := 64 }
def P_X3_waitNoLonger (q0 : Nat) (h : HP) (Q : HP → Prop) : Prop := P_X3_giveUp q0 h (fun (h_1 : HP) => ((¬ ((si h_1 q0 8 0).1 q0 9) = 0) → (Q (si (si h_1 q0 8 0) q0 9 1))) ∧ ((((si h_1 q0 8 0).1 q0 9) = 0) → (((((si h_1 q0 8 0).1 q0 10) = 0) → (Q (si (si h_1 q0 8 0) q0 9 0))) ∧ ((¬ ((si h_1 q0 8 0).1 q0 10) = 0) → (Q (si (si h_1 q0 8 0) q0 9 1))))))
set_option maxHeartbeats 4000000 in
theorem t_X3_waitNoLonger {q0 : Nat} {h : HP} {Q : HP → Prop} (hq0 : Ty gC q0 3 0) (hp : P_X3_waitNoLonger q0 h Q) : MT yX3_waitNoLonger cX3_waitNoLonger 1 none rm_X3_waitNoLonger [.ref q0] gC SH (emb h) (pV Q) := by
  refine MT.of (by decide +kernel) (Nat.le_of_ble_eq_true rfl) (fun C hC hE => ?_)
  show SW C gC 0 [(0, .ref q0)] [] h
  unfold P_X3_waitNoLonger at hp
  refine x_aload_n hC dX3_waitNoLonger_0 (lm 0 rfl) ?_
  refine s_callVv (avs := []) (st := []) hC dX3_waitNoLonger_1 ml_3_108 mi_X3_giveUp hq0 rfl (t_X3_giveUp hq0 hp) (Nat.le_of_ble_eq_true rfl) ⟨rfl, rfl⟩ ⟨Nat.le_of_ble_eq_true rfl, Nat.le_of_ble_eq_true rfl⟩ (fun h_1 hp => ?_)
  refine x_aload_n hC dX3_waitNoLonger_4 (lm 0 rfl) ?_
  refine x_iconst hC dX3_waitNoLonger_5 ic_0 ?_
  refine s_putZ hC dX3_waitNoLonger_6 fk_3_51 rfl rfl (Or.inl rfl) hq0 ?_
  refine x_aload_n hC dX3_waitNoLonger_9 (lm 0 rfl) ?_
  refine x_aload_n hC dX3_waitNoLonger_10 (lm 0 rfl) ?_
  refine s_getZ hC dX3_waitNoLonger_11 fk_3_55 hq0 ?_
  refine x_if_ne (tgt := 24) hC dX3_waitNoLonger_14 (by decide) (fun hc => ?_) (fun hc => ?_)
  · have hp := hp.1 hc
    refine x_iconst hC dX3_waitNoLonger_24 ic_1 ?_
    refine x_goto (tgt := 29) hC dX3_waitNoLonger_25 (by decide) ?_
    refine s_putZ hC dX3_waitNoLonger_29 fk_3_55 rfl rfl (Or.inr rfl) hq0 ?_
    exact x_vret hC hE dX3_waitNoLonger_32 ⟨_, rfl, rfl, hp⟩
  · have hp := hp.2 hc
    refine x_aload_n hC dX3_waitNoLonger_17 (lm 0 rfl) ?_
    refine s_getZ hC dX3_waitNoLonger_18 fk_3_58 hq0 ?_
    refine x_if_eq (tgt := 28) hC dX3_waitNoLonger_21 (by decide) (fun hc => ?_) (fun hc => ?_)
    · have hp := hp.1 hc
      refine x_iconst hC dX3_waitNoLonger_28 ic_0 ?_
      refine s_putZ hC dX3_waitNoLonger_29 fk_3_55 rfl rfl (Or.inl rfl) hq0 ?_
      exact x_vret hC hE dX3_waitNoLonger_32 ⟨_, rfl, rfl, hp⟩
    · have hp := hp.2 hc
      refine x_iconst hC dX3_waitNoLonger_24 ic_1 ?_
      refine x_goto (tgt := 29) hC dX3_waitNoLonger_25 (by decide) ?_
      refine s_putZ hC dX3_waitNoLonger_29 fk_3_55 rfl rfl (Or.inr rfl) hq0 ?_
      exact x_vret hC hE dX3_waitNoLonger_32 ⟨_, rfl, rfl, hp⟩
theorem dX3_tell_0 : decode cX3_tell 0 = .ok (.iload_n 1, 1) := by decide +kernel
theorem dX3_tell_1 : decode cX3_tell 1 = .ok (.ifCond .ne 8, 3) := by decide +kernel
theorem dX3_tell_4 : decode cX3_tell 4 = .ok (.aload_n 0, 1) := by decide +kernel
theorem dX3_tell_5 : decode cX3_tell 5 = .ok (.getfield 35, 3) := by decide +kernel
theorem dX3_tell_8 : decode cX3_tell 8 = .ok (.ireturn, 1) := by decide +kernel
theorem dX3_tell_9 : decode cX3_tell 9 = .ok (.aload_n 0, 1) := by decide +kernel
theorem dX3_tell_10 : decode cX3_tell 10 = .ok (.getfield 35, 3) := by decide +kernel
theorem dX3_tell_13 : decode cX3_tell 13 = .ok (.iconst 2, 1) := by decide +kernel
theorem dX3_tell_14 : decode cX3_tell 14 = .ok (.if_icmp .eq 5, 3) := by decide +kernel
theorem dX3_tell_17 : decode cX3_tell 17 = .ok (.iconst (-1), 1) := by decide +kernel
theorem dX3_tell_18 : decode cX3_tell 18 = .ok (.ireturn, 1) := by decide +kernel
theorem dX3_tell_19 : decode cX3_tell 19 = .ok (.iload_n 1, 1) := by decide +kernel
theorem dX3_tell_20 : decode cX3_tell 20 = .ok (.tableswitch 94 1 8 #[48, 53, 58, 63, 68, 73, 78, 86], 48) := by decide +kernel
theorem dX3_tell_68 : decode cX3_tell 68 = .ok (.aload_n 0, 1) := by decide +kernel
theorem dX3_tell_69 : decode cX3_tell 69 = .ok (.getfield 67, 3) := by decide +kernel
theorem dX3_tell_72 : decode cX3_tell 72 = .ok (.ireturn, 1) := by decide +kernel
theorem dX3_tell_73 : decode cX3_tell 73 = .ok (.aload_n 0, 1) := by decide +kernel
theorem dX3_tell_74 : decode cX3_tell 74 = .ok (.getfield 64, 3) := by decide +kernel
theorem dX3_tell_77 : decode cX3_tell 77 = .ok (.ireturn, 1) := by decide +kernel
theorem dX3_tell_78 : decode cX3_tell 78 = .ok (.aload_n 0, 1) := by decide +kernel
theorem dX3_tell_79 : decode cX3_tell 79 = .ok (.getfield 39, 3) := by decide +kernel
theorem dX3_tell_82 : decode cX3_tell 82 = .ok (.ireturn, 1) := by decide +kernel
theorem dX3_tell_83 : decode cX3_tell 83 = .ok (.aload_n 0, 1) := by decide +kernel
theorem dX3_tell_84 : decode cX3_tell 84 = .ok (.getfield 42, 3) := by decide +kernel
theorem dX3_tell_87 : decode cX3_tell 87 = .ok (.ireturn, 1) := by decide +kernel
theorem dX3_tell_88 : decode cX3_tell 88 = .ok (.aload_n 0, 1) := by decide +kernel
theorem dX3_tell_89 : decode cX3_tell 89 = .ok (.getfield 45, 3) := by decide +kernel
theorem dX3_tell_92 : decode cX3_tell 92 = .ok (.ireturn, 1) := by decide +kernel
theorem dX3_tell_93 : decode cX3_tell 93 = .ok (.aload_n 0, 1) := by decide +kernel
theorem dX3_tell_94 : decode cX3_tell 94 = .ok (.invokevirtual 116, 3) := by decide +kernel
theorem dX3_tell_97 : decode cX3_tell 97 = .ok (.ireturn, 1) := by decide +kernel
theorem dX3_tell_98 : decode cX3_tell 98 = .ok (.aload_n 0, 1) := by decide +kernel
theorem dX3_tell_99 : decode cX3_tell 99 = .ok (.getfield 51, 3) := by decide +kernel
theorem dX3_tell_102 : decode cX3_tell 102 = .ok (.invokestatic 86, 3) := by decide +kernel
theorem dX3_tell_105 : decode cX3_tell 105 = .ok (.ireturn, 1) := by decide +kernel
theorem dX3_tell_106 : decode cX3_tell 106 = .ok (.aload_n 0, 1) := by decide +kernel
theorem dX3_tell_107 : decode cX3_tell 107 = .ok (.getfield 55, 3) := by decide +kernel
theorem dX3_tell_110 : decode cX3_tell 110 = .ok (.invokestatic 86, 3) := by decide +kernel
theorem dX3_tell_113 : decode cX3_tell 113 = .ok (.ireturn, 1) := by decide +kernel
theorem dX3_tell_114 : decode cX3_tell 114 = .ok (.aload_n 0, 1) := by decide +kernel
theorem dX3_tell_115 : decode cX3_tell 115 = .ok (.getfield 48, 3) := by decide +kernel
theorem dX3_tell_118 : decode cX3_tell 118 = .ok (.ireturn, 1) := by decide +kernel
abbrev rm_X3_tell : Room := { frames := 3, cells := 0, slots := 0, locals := 64 }
def P_X3_tell (q0 : Nat) (i1 : Int32) (h : HP) (Q : Int32 → HP → Prop) : Prop := ((¬ i1 = 0) → ((((h.1 q0 1) = 2) → ((i1.toInt = 1 → (Q (h.1 q0 2) h)) ∧ (i1.toInt = 2 → (Q (h.1 q0 3) h)) ∧ (i1.toInt = 3 → (Q (h.1 q0 4) h)) ∧ (i1.toInt = 4 → (Q (h.1 q0 5) h)) ∧ (i1.toInt = 5 → (Q (h.1 q0 6) h)) ∧ (i1.toInt = 6 → (P_X3_undone q0 h (fun (v_94 : Int32) (h_94 : HP) => Q v_94 h_94))) ∧ (i1.toInt = 7 → (P_X8_flag (h.1 q0 8) h (fun (v_102 : Int32) (h_102 : HP) => Q v_102 h_102))) ∧ (i1.toInt = 8 → (P_X8_flag (h.1 q0 9) h (fun (v_110 : Int32) (h_110 : HP) => Q v_110 h_110))) ∧ ((i1.toInt < 1 ∨ 8 < i1.toInt) → (Q (h.1 q0 7) h)))) ∧ ((¬ (h.1 q0 1) = 2) → (Q (-1) h)))) ∧ ((i1 = 0) → (Q (h.1 q0 1) h))
set_option maxHeartbeats 4000000 in
theorem t_X3_tell {q0 : Nat} {i1 : Int32} {h : HP} {Q : Int32 → HP → Prop} (hq0 : Ty gC q0 3 0) (hp : P_X3_tell q0 i1 h Q) : MT yX3_tell cX3_tell 2 (some .int) rm_X3_tell [.ref q0, .int i1] gC SH (emb h) (pI Q) := by
  refine MT.of (by decide +kernel) (Nat.le_of_ble_eq_true rfl) (fun C hC hE => ?_)
  show SW C gC 0 [(0, .ref q0), (1, .int i1)] [] h
  unfold P_X3_tell at hp
  refine x_iload_n hC dX3_tell_0 (lm 1 rfl) ?_
  refine x_if_ne (tgt := 9) hC dX3_tell_1 (by decide) (fun hc => ?_) (fun hc => ?_)
  · have hp := hp.1 hc
    refine x_aload_n hC dX3_tell_9 (lm 0 rfl) ?_
    refine s_getI hC dX3_tell_10 fk_3_35 hq0 ?_
    refine x_iconst hC dX3_tell_13 ic_2 ?_
    refine x_icmp_eq (tgt := 19) hC dX3_tell_14 (by decide) (fun hc => ?_) (fun hc => ?_)
    · have hp := hp.1 hc
      refine x_iload_n hC dX3_tell_19 (lm 1 rfl) ?_
      refine x_tsw (tgt := 114) hC dX3_tell_20 [68, 73, 78, 83, 88, 93, 98, 106] (by decide) (by decide) (by decide) (fun hc => ?_) (fun i t hi hx => ?_)
      · have hp := hp.2.2.2.2.2.2.2.2 hc
        refine x_aload_n hC dX3_tell_114 (lm 0 rfl) ?_
        refine s_getI hC dX3_tell_115 fk_3_48 hq0 ?_
        exact x_iret hC hE dX3_tell_118 ⟨_, _, rfl, rfl, hp⟩
      · match i, hi, hx with
        | 0, hi, hx =>
          cases hi
          have hp := hp.1 hx
          refine x_aload_n hC dX3_tell_68 (lm 0 rfl) ?_
          refine s_getI hC dX3_tell_69 fk_3_67 hq0 ?_
          exact x_iret hC hE dX3_tell_72 ⟨_, _, rfl, rfl, hp⟩
        | 1, hi, hx =>
          cases hi
          have hp := hp.2.1 hx
          refine x_aload_n hC dX3_tell_73 (lm 0 rfl) ?_
          refine s_getI hC dX3_tell_74 fk_3_64 hq0 ?_
          exact x_iret hC hE dX3_tell_77 ⟨_, _, rfl, rfl, hp⟩
        | 2, hi, hx =>
          cases hi
          have hp := hp.2.2.1 hx
          refine x_aload_n hC dX3_tell_78 (lm 0 rfl) ?_
          refine s_getI hC dX3_tell_79 fk_3_39 hq0 ?_
          exact x_iret hC hE dX3_tell_82 ⟨_, _, rfl, rfl, hp⟩
        | 3, hi, hx =>
          cases hi
          have hp := hp.2.2.2.1 hx
          refine x_aload_n hC dX3_tell_83 (lm 0 rfl) ?_
          refine s_getI hC dX3_tell_84 fk_3_42 hq0 ?_
          exact x_iret hC hE dX3_tell_87 ⟨_, _, rfl, rfl, hp⟩
        | 4, hi, hx =>
          cases hi
          have hp := hp.2.2.2.2.1 hx
          refine x_aload_n hC dX3_tell_88 (lm 0 rfl) ?_
          refine s_getI hC dX3_tell_89 fk_3_45 hq0 ?_
          exact x_iret hC hE dX3_tell_92 ⟨_, _, rfl, rfl, hp⟩
        | 5, hi, hx =>
          cases hi
          have hp := hp.2.2.2.2.2.1 hx
          refine x_aload_n hC dX3_tell_93 (lm 0 rfl) ?_
          refine s_callVi (avs := []) (st := []) hC dX3_tell_94 ml_3_116 mi_X3_undone hq0 rfl (t_X3_undone hq0 hp) (Nat.le_of_ble_eq_true rfl) ⟨rfl, rfl⟩ ⟨Nat.le_of_ble_eq_true rfl, Nat.le_of_ble_eq_true rfl⟩ (fun v_94 h_94 hp => ?_)
          exact x_iret hC hE dX3_tell_97 ⟨_, _, rfl, rfl, hp⟩
        | 6, hi, hx =>
          cases hi
          have hp := hp.2.2.2.2.2.2.1 hx
          refine x_aload_n hC dX3_tell_98 (lm 0 rfl) ?_
          refine s_getZ hC dX3_tell_99 fk_3_51 hq0 ?_
          refine s_callNi (avs := [.int (h.1 q0 8)]) (st := []) hC dX3_tell_102 nl_3_86 ms_X8_flag rfl (t_X8_flag  hp) (Nat.le_of_ble_eq_true rfl) ⟨rfl, rfl⟩ ⟨Nat.le_of_ble_eq_true rfl, Nat.le_of_ble_eq_true rfl⟩ (fun v_102 h_102 hp => ?_)
          exact x_iret hC hE dX3_tell_105 ⟨_, _, rfl, rfl, hp⟩
        | 7, hi, hx =>
          cases hi
          have hp := hp.2.2.2.2.2.2.2.1 hx
          refine x_aload_n hC dX3_tell_106 (lm 0 rfl) ?_
          refine s_getZ hC dX3_tell_107 fk_3_55 hq0 ?_
          refine s_callNi (avs := [.int (h.1 q0 9)]) (st := []) hC dX3_tell_110 nl_3_86 ms_X8_flag rfl (t_X8_flag  hp) (Nat.le_of_ble_eq_true rfl) ⟨rfl, rfl⟩ ⟨Nat.le_of_ble_eq_true rfl, Nat.le_of_ble_eq_true rfl⟩ (fun v_110 h_110 hp => ?_)
          exact x_iret hC hE dX3_tell_113 ⟨_, _, rfl, rfl, hp⟩
        | i + 8, hi, hx => exact absurd hi (by simp)
    · have hp := hp.2 hc
      refine x_iconst hC dX3_tell_17 ic_m1 ?_
      exact x_iret hC hE dX3_tell_18 ⟨_, _, rfl, rfl, hp⟩
  · have hp := hp.2 hc
    refine x_aload_n hC dX3_tell_4 (lm 0 rfl) ?_
    refine s_getI hC dX3_tell_5 fk_3_35 hq0 ?_
    exact x_iret hC hE dX3_tell_8 ⟨_, _, rfl, rfl, hp⟩
theorem dX3_tellGiven_0 : decode cX3_tellGiven 0 = .ok (.aload_n 0, 1) := by decide +kernel
theorem dX3_tellGiven_1 : decode cX3_tellGiven 1 = .ok (.getfield 39, 3) := by decide +kernel
theorem dX3_tellGiven_4 : decode cX3_tellGiven 4 = .ok (.iload_n 1, 1) := by decide +kernel
theorem dX3_tellGiven_5 : decode cX3_tellGiven 5 = .ok (.iadd, 1) := by decide +kernel
theorem dX3_tellGiven_6 : decode cX3_tellGiven 6 = .ok (.invokestatic 82, 3) := by decide +kernel
theorem dX3_tellGiven_9 : decode cX3_tellGiven 9 = .ok (.istore_n 3, 1) := by decide +kernel
theorem dX3_tellGiven_10 : decode cX3_tellGiven 10 = .ok (.iload_n 2, 1) := by decide +kernel
theorem dX3_tellGiven_11 : decode cX3_tellGiven 11 = .ok (.tableswitch 60 0 3 #[29, 39, 46, 53], 29) := by decide +kernel
theorem dX3_tellGiven_40 : decode cX3_tellGiven 40 = .ok (.aload_n 0, 1) := by decide +kernel
theorem dX3_tellGiven_41 : decode cX3_tellGiven 41 = .ok (.getfield 39, 3) := by decide +kernel
theorem dX3_tellGiven_44 : decode cX3_tellGiven 44 = .ok (.iload_n 1, 1) := by decide +kernel
theorem dX3_tellGiven_45 : decode cX3_tellGiven 45 = .ok (.iadd, 1) := by decide +kernel
theorem dX3_tellGiven_46 : decode cX3_tellGiven 46 = .ok (.invokestatic 101, 3) := by decide +kernel
theorem dX3_tellGiven_49 : decode cX3_tellGiven 49 = .ok (.ireturn, 1) := by decide +kernel
theorem dX3_tellGiven_50 : decode cX3_tellGiven 50 = .ok (.aload_n 0, 1) := by decide +kernel
theorem dX3_tellGiven_51 : decode cX3_tellGiven 51 = .ok (.getfield 18, 3) := by decide +kernel
theorem dX3_tellGiven_54 : decode cX3_tellGiven 54 = .ok (.iload_n 3, 1) := by decide +kernel
theorem dX3_tellGiven_55 : decode cX3_tellGiven 55 = .ok (.iaload, 1) := by decide +kernel
theorem dX3_tellGiven_56 : decode cX3_tellGiven 56 = .ok (.ireturn, 1) := by decide +kernel
theorem dX3_tellGiven_57 : decode cX3_tellGiven 57 = .ok (.aload_n 0, 1) := by decide +kernel
theorem dX3_tellGiven_58 : decode cX3_tellGiven 58 = .ok (.getfield 21, 3) := by decide +kernel
theorem dX3_tellGiven_61 : decode cX3_tellGiven 61 = .ok (.iload_n 3, 1) := by decide +kernel
theorem dX3_tellGiven_62 : decode cX3_tellGiven 62 = .ok (.iaload, 1) := by decide +kernel
theorem dX3_tellGiven_63 : decode cX3_tellGiven 63 = .ok (.ireturn, 1) := by decide +kernel
theorem dX3_tellGiven_64 : decode cX3_tellGiven 64 = .ok (.aload_n 0, 1) := by decide +kernel
theorem dX3_tellGiven_65 : decode cX3_tellGiven 65 = .ok (.getfield 24, 3) := by decide +kernel
theorem dX3_tellGiven_68 : decode cX3_tellGiven 68 = .ok (.iload_n 3, 1) := by decide +kernel
theorem dX3_tellGiven_69 : decode cX3_tellGiven 69 = .ok (.iaload, 1) := by decide +kernel
theorem dX3_tellGiven_70 : decode cX3_tellGiven 70 = .ok (.ireturn, 1) := by decide +kernel
theorem dX3_tellGiven_71 : decode cX3_tellGiven 71 = .ok (.aload_n 0, 1) := by decide +kernel
theorem dX3_tellGiven_72 : decode cX3_tellGiven 72 = .ok (.getfield 27, 3) := by decide +kernel
theorem dX3_tellGiven_75 : decode cX3_tellGiven 75 = .ok (.iload_n 3, 1) := by decide +kernel
theorem dX3_tellGiven_76 : decode cX3_tellGiven 76 = .ok (.baload, 1) := by decide +kernel
theorem dX3_tellGiven_77 : decode cX3_tellGiven 77 = .ok (.invokestatic 86, 3) := by decide +kernel
theorem dX3_tellGiven_80 : decode cX3_tellGiven 80 = .ok (.ireturn, 1) := by decide +kernel
abbrev rm_X3_tellGiven : Room := { frames := 1, cells := 0, slots := 0, locals := 20 }
def P_X3_tellGiven (q0 : Nat) (i1 : Int32) (i2 : Int32) (h : HP) (Q : Int32 → HP → Prop) : Prop := P_X8_slot ((h.1 q0 4) + i1) h (fun (v_6 : Int32) (h_6 : HP) => (i2.toInt = 0 → (P_X8_round ((h_6.1 q0 4) + i1) h_6 (fun (v_46 : Int32) (h_46 : HP) => Q v_46 h_46))) ∧ (i2.toInt = 1 → ((vp_in v_6 16) ∧ (Q (h_6.1 (q0 + 3) v_6.toNatClampNeg) h_6))) ∧ (i2.toInt = 2 → ((vp_in v_6 16) ∧ (Q (h_6.1 (q0 + 4) v_6.toNatClampNeg) h_6))) ∧ (i2.toInt = 3 → ((vp_in v_6 16) ∧ (Q (h_6.1 (q0 + 5) v_6.toNatClampNeg) h_6))) ∧ ((i2.toInt < 0 ∨ 3 < i2.toInt) → ((vp_in v_6 16) ∧ (P_X8_flag (h_6.1 (q0 + 6) v_6.toNatClampNeg) h_6 (fun (v_77 : Int32) (h_77 : HP) => Q v_77 h_77)))))
set_option maxHeartbeats 4000000 in
theorem t_X3_tellGiven {q0 : Nat} {i1 : Int32} {i2 : Int32} {h : HP} {Q : Int32 → HP → Prop} (hq0 : Ty gC q0 3 0) (hp : P_X3_tellGiven q0 i1 i2 h Q) : MT yX3_tellGiven cX3_tellGiven 4 (some .int) rm_X3_tellGiven [.ref q0, .int i1, .int i2] gC SH (emb h) (pI Q) := by
  refine MT.of (by decide +kernel) (Nat.le_of_ble_eq_true rfl) (fun C hC hE => ?_)
  show SW C gC 0 [(0, .ref q0), (1, .int i1), (2, .int i2)] [] h
  unfold P_X3_tellGiven at hp
  refine x_aload_n hC dX3_tellGiven_0 (lm 0 rfl) ?_
  refine s_getI hC dX3_tellGiven_1 fk_3_39 hq0 ?_
  refine x_iload_n hC dX3_tellGiven_4 (lm 1 rfl) ?_
  refine x_iadd hC dX3_tellGiven_5 ?_
  refine s_callNi (avs := [.int ((h.1 q0 4) + i1)]) (st := []) hC dX3_tellGiven_6 nl_3_82 ms_X8_slot rfl (t_X8_slot  hp) (Nat.le_of_ble_eq_true rfl) ⟨rfl, rfl⟩ ⟨Nat.le_of_ble_eq_true rfl, Nat.le_of_ble_eq_true rfl⟩ (fun v_6 h_6 hp => ?_)
  refine x_istore_n (lv' := [(3, .int v_6), (0, .ref q0), (1, .int i1), (2, .int i2)]) hC dX3_tellGiven_9 (by decide) rfl ?_
  refine x_iload_n hC dX3_tellGiven_10 (lm 3 rfl) ?_
  refine x_tsw (tgt := 71) hC dX3_tellGiven_11 [40, 50, 57, 64] (by decide) (by decide) (by decide) (fun hc => ?_) (fun i t hi hx => ?_)
  · have hp := hp.2.2.2.2 hc
    refine x_aload_n hC dX3_tellGiven_71 (lm 1 rfl) ?_
    refine s_getR (r := q0 + 6) hC dX3_tellGiven_72 fk_3_27 hq0 (fr_3_16 hq0).1 ?_
    refine x_iload_n hC dX3_tellGiven_75 (lm 0 rfl) ?_
    obtain ⟨ho, hp⟩ := hp
    refine s_zald hC dX3_tellGiven_76 ((fr_3_16 hq0).2) ho ?_
    refine s_callNi (avs := [.int (h_6.1 (q0 + 6) v_6.toNatClampNeg)]) (st := []) hC dX3_tellGiven_77 nl_3_86 ms_X8_flag rfl (t_X8_flag  hp) (Nat.le_of_ble_eq_true rfl) ⟨rfl, rfl⟩ ⟨Nat.le_of_ble_eq_true rfl, Nat.le_of_ble_eq_true rfl⟩ (fun v_77 h_77 hp => ?_)
    exact x_iret hC hE dX3_tellGiven_80 ⟨_, _, rfl, rfl, hp⟩
  · match i, hi, hx with
    | 0, hi, hx =>
      cases hi
      have hp := hp.1 hx
      refine x_aload_n hC dX3_tellGiven_40 (lm 1 rfl) ?_
      refine s_getI hC dX3_tellGiven_41 fk_3_39 hq0 ?_
      refine x_iload_n hC dX3_tellGiven_44 (lm 2 rfl) ?_
      refine x_iadd hC dX3_tellGiven_45 ?_
      refine s_callNi (avs := [.int ((h_6.1 q0 4) + i1)]) (st := []) hC dX3_tellGiven_46 nl_3_101 ms_X8_round rfl (t_X8_round  hp) (Nat.le_of_ble_eq_true rfl) ⟨rfl, rfl⟩ ⟨Nat.le_of_ble_eq_true rfl, Nat.le_of_ble_eq_true rfl⟩ (fun v_46 h_46 hp => ?_)
      exact x_iret hC hE dX3_tellGiven_49 ⟨_, _, rfl, rfl, hp⟩
    | 1, hi, hx =>
      cases hi
      have hp := hp.2.1 hx
      refine x_aload_n hC dX3_tellGiven_50 (lm 1 rfl) ?_
      refine s_getR (r := q0 + 3) hC dX3_tellGiven_51 fk_3_18 hq0 (fr_3_13 hq0).1 ?_
      refine x_iload_n hC dX3_tellGiven_54 (lm 0 rfl) ?_
      obtain ⟨ho, hp⟩ := hp
      refine s_iald hC dX3_tellGiven_55 ((fr_3_13 hq0).2) ho ?_
      exact x_iret hC hE dX3_tellGiven_56 ⟨_, _, rfl, rfl, hp⟩
    | 2, hi, hx =>
      cases hi
      have hp := hp.2.2.1 hx
      refine x_aload_n hC dX3_tellGiven_57 (lm 1 rfl) ?_
      refine s_getR (r := q0 + 4) hC dX3_tellGiven_58 fk_3_21 hq0 (fr_3_14 hq0).1 ?_
      refine x_iload_n hC dX3_tellGiven_61 (lm 0 rfl) ?_
      obtain ⟨ho, hp⟩ := hp
      refine s_iald hC dX3_tellGiven_62 ((fr_3_14 hq0).2) ho ?_
      exact x_iret hC hE dX3_tellGiven_63 ⟨_, _, rfl, rfl, hp⟩
    | 3, hi, hx =>
      cases hi
      have hp := hp.2.2.2.1 hx
      refine x_aload_n hC dX3_tellGiven_64 (lm 1 rfl) ?_
      refine s_getR (r := q0 + 5) hC dX3_tellGiven_65 fk_3_24 hq0 (fr_3_15 hq0).1 ?_
      refine x_iload_n hC dX3_tellGiven_68 (lm 0 rfl) ?_
      obtain ⟨ho, hp⟩ := hp
      refine s_iald hC dX3_tellGiven_69 ((fr_3_15 hq0).2) ho ?_
      exact x_iret hC hE dX3_tellGiven_70 ⟨_, _, rfl, rfl, hp⟩
    | i + 4, hi, hx => exact absurd hi (by simp)
theorem dX4_has_0 : decode cX4_has 0 = .ok (.iload_n 1, 1) := by decide +kernel
theorem dX4_has_1 : decode cX4_has 1 = .ok (.iconst 0, 1) := by decide +kernel
theorem dX4_has_2 : decode cX4_has 2 = .ok (.aload_n 0, 1) := by decide +kernel
theorem dX4_has_3 : decode cX4_has 3 = .ok (.getfield 15, 3) := by decide +kernel
theorem dX4_has_6 : decode cX4_has 6 = .ok (.iconst 1, 1) := by decide +kernel
theorem dX4_has_7 : decode cX4_has 7 = .ok (.isub, 1) := by decide +kernel
theorem dX4_has_8 : decode cX4_has 8 = .ok (.invokestatic 19, 3) := by decide +kernel
theorem dX4_has_11 : decode cX4_has 11 = .ok (.ireturn, 1) := by decide +kernel
abbrev rm_X4_has : Room := { frames := 1, cells := 0, slots := 0, locals := 22 }
def P_X4_has (q0 : Nat) (i1 : Int32) (h : HP) (Q : Int32 → HP → Prop) : Prop := P_X8_within i1 0 ((h.1 q0 1) - 1) h (fun (v_8 : Int32) (h_8 : HP) => (v_8 = 0 ∨ v_8 = 1) ∧ Q v_8 h_8)
set_option maxHeartbeats 4000000 in
theorem t_X4_has {q0 : Nat} {i1 : Int32} {h : HP} {Q : Int32 → HP → Prop} (hq0 : Ty gC q0 4 0) (hp : P_X4_has q0 i1 h Q) : MT yX4_has cX4_has 2 (some .boolean) rm_X4_has [.ref q0, .int i1] gC SH (emb h) (pI Q) := by
  refine MT.of (by decide +kernel) (Nat.le_of_ble_eq_true rfl) (fun C hC hE => ?_)
  show SW C gC 0 [(0, .ref q0), (1, .int i1)] [] h
  unfold P_X4_has at hp
  refine x_iload_n hC dX4_has_0 (lm 1 rfl) ?_
  refine x_iconst hC dX4_has_1 ic_0 ?_
  refine x_aload_n hC dX4_has_2 (lm 0 rfl) ?_
  refine s_getI hC dX4_has_3 fk_4_15 hq0 ?_
  refine x_iconst hC dX4_has_6 ic_1 ?_
  refine x_isub hC dX4_has_7 ?_
  refine s_callNi (avs := [.int i1, .int 0, .int ((h.1 q0 1) - 1)]) (st := []) hC dX4_has_8 nl_4_19 ms_X8_within rfl (t_X8_within  hp) (Nat.le_of_ble_eq_true rfl) ⟨rfl, rfl⟩ ⟨Nat.le_of_ble_eq_true rfl, Nat.le_of_ble_eq_true rfl⟩ (fun v_8 h_8 hp => ?_)
  obtain ⟨ho, hp⟩ := hp
  exact x_zret hC hE dX4_has_11 ho ⟨_, _, rfl, rfl, hp⟩
theorem dX4_at_0 : decode cX4_at 0 = .ok (.aload_n 0, 1) := by decide +kernel
theorem dX4_at_1 : decode cX4_at 1 = .ok (.iload_n 1, 1) := by decide +kernel
theorem dX4_at_2 : decode cX4_at 2 = .ok (.invokevirtual 23, 3) := by decide +kernel
theorem dX4_at_5 : decode cX4_at 5 = .ok (.ifCond .eq 12, 3) := by decide +kernel
theorem dX4_at_8 : decode cX4_at 8 = .ok (.aload_n 0, 1) := by decide +kernel
theorem dX4_at_9 : decode cX4_at 9 = .ok (.getfield 11, 3) := by decide +kernel
theorem dX4_at_12 : decode cX4_at 12 = .ok (.iload_n 1, 1) := by decide +kernel
theorem dX4_at_13 : decode cX4_at 13 = .ok (.iaload, 1) := by decide +kernel
theorem dX4_at_14 : decode cX4_at 14 = .ok (.goto 4, 3) := by decide +kernel
theorem dX4_at_17 : decode cX4_at 17 = .ok (.iconst (-1), 1) := by decide +kernel
theorem dX4_at_18 : decode cX4_at 18 = .ok (.ireturn, 1) := by decide +kernel
abbrev rm_X4_at : Room := { frames := 2, cells := 0, slots := 0, locals := 43 }
def P_X4_at (q0 : Nat) (i1 : Int32) (h : HP) (Q : Int32 → HP → Prop) : Prop := P_X4_has q0 i1 h (fun (v_2 : Int32) (h_2 : HP) => ((v_2 = 0) → (Q (-1) h_2)) ∧ ((¬ v_2 = 0) → ((vp_in i1 10) ∧ (Q (h_2.1 (q0 + 1) i1.toNatClampNeg) h_2))))
set_option maxHeartbeats 4000000 in
theorem t_X4_at {q0 : Nat} {i1 : Int32} {h : HP} {Q : Int32 → HP → Prop} (hq0 : Ty gC q0 4 0) (hp : P_X4_at q0 i1 h Q) : MT yX4_at cX4_at 2 (some .int) rm_X4_at [.ref q0, .int i1] gC SH (emb h) (pI Q) := by
  refine MT.of (by decide +kernel) (Nat.le_of_ble_eq_true rfl) (fun C hC hE => ?_)
  show SW C gC 0 [(0, .ref q0), (1, .int i1)] [] h
  unfold P_X4_at at hp
  refine x_aload_n hC dX4_at_0 (lm 0 rfl) ?_
  refine x_iload_n hC dX4_at_1 (lm 1 rfl) ?_
  refine s_callVi (avs := [.int i1]) (st := []) hC dX4_at_2 ml_4_23 mi_X4_has hq0 rfl (t_X4_has hq0 hp) (Nat.le_of_ble_eq_true rfl) ⟨rfl, rfl⟩ ⟨Nat.le_of_ble_eq_true rfl, Nat.le_of_ble_eq_true rfl⟩ (fun v_2 h_2 hp => ?_)
  refine x_if_eq (tgt := 17) hC dX4_at_5 (by decide) (fun hc => ?_) (fun hc => ?_)
  · have hp := hp.1 hc
    refine x_iconst hC dX4_at_17 ic_m1 ?_
    exact x_iret hC hE dX4_at_18 ⟨_, _, rfl, rfl, hp⟩
  · have hp := hp.2 hc
    refine x_aload_n hC dX4_at_8 (lm 0 rfl) ?_
    refine s_getR (r := q0 + 1) hC dX4_at_9 fk_4_11 hq0 (fr_4_0 hq0).1 ?_
    refine x_iload_n hC dX4_at_12 (lm 1 rfl) ?_
    obtain ⟨ho, hp⟩ := hp
    refine s_iald hC dX4_at_13 ((fr_4_0 hq0).2) ho ?_
    refine x_goto (tgt := 18) hC dX4_at_14 (by decide) ?_
    exact x_iret hC hE dX4_at_18 ⟨_, _, rfl, rfl, hp⟩
theorem dX5_write_0 : decode cX5_write 0 = .ok (.aload_n 0, 1) := by decide +kernel
theorem dX5_write_1 : decode cX5_write 1 = .ok (.getfield 15, 3) := by decide +kernel
theorem dX5_write_4 : decode cX5_write 4 = .ok (.bipush 9, 2) := by decide +kernel
theorem dX5_write_6 : decode cX5_write 6 = .ok (.if_icmp .lt 5, 3) := by decide +kernel
theorem dX5_write_9 : decode cX5_write 9 = .ok (.iconst 0, 1) := by decide +kernel
theorem dX5_write_10 : decode cX5_write 10 = .ok (.ireturn, 1) := by decide +kernel
theorem dX5_write_11 : decode cX5_write 11 = .ok (.aload_n 0, 1) := by decide +kernel
theorem dX5_write_12 : decode cX5_write 12 = .ok (.getfield 11, 3) := by decide +kernel
theorem dX5_write_15 : decode cX5_write 15 = .ok (.aload_n 0, 1) := by decide +kernel
theorem dX5_write_16 : decode cX5_write 16 = .ok (.getfield 15, 3) := by decide +kernel
theorem dX5_write_19 : decode cX5_write 19 = .ok (.iload_n 1, 1) := by decide +kernel
theorem dX5_write_20 : decode cX5_write 20 = .ok (.iastore, 1) := by decide +kernel
theorem dX5_write_21 : decode cX5_write 21 = .ok (.aload_n 0, 1) := by decide +kernel
theorem dX5_write_22 : decode cX5_write 22 = .ok (.dup, 1) := by decide +kernel
theorem dX5_write_23 : decode cX5_write 23 = .ok (.getfield 15, 3) := by decide +kernel
theorem dX5_write_26 : decode cX5_write 26 = .ok (.iconst 1, 1) := by decide +kernel
theorem dX5_write_27 : decode cX5_write 27 = .ok (.iadd, 1) := by decide +kernel
theorem dX5_write_28 : decode cX5_write 28 = .ok (.putfield 15, 3) := by decide +kernel
theorem dX5_write_31 : decode cX5_write 31 = .ok (.iconst 1, 1) := by decide +kernel
theorem dX5_write_32 : decode cX5_write 32 = .ok (.ireturn, 1) := by decide +kernel
abbrev rm_X5_write : Room := { frames := 0, cells := 0, slots := 0, locals := 0 }
def P_X5_write (i1 : Int32) (h : HP) (Q : Int32 → HP → Prop) : Prop := (((h.1 1 1) < 9) → ((vp_in (h.1 1 1) 9) ∧ (Q 1 (si (si h 2 (h.1 1 1).toNatClampNeg i1) 1 1 (((si h 2 (h.1 1 1).toNatClampNeg i1).1 1 1) + 1))))) ∧ ((¬ (h.1 1 1) < 9) → Q 0 h)
set_option maxHeartbeats 4000000 in
theorem t_X5_write {i1 : Int32} {h : HP} {Q : Int32 → HP → Prop}  (hp : P_X5_write i1 h Q) : MT yX5_write cX5_write 2 (some .boolean) rm_X5_write [.ref 1, .int i1] gC SH (emb h) (pI Q) := by
  refine MT.of (by decide +kernel) (Nat.le_of_ble_eq_true rfl) (fun C hC hE => ?_)
  show SW C gC 0 [(0, .ref 1), (1, .int i1)] [] h
  unfold P_X5_write at hp
  refine x_aload_n hC dX5_write_0 (lm 0 rfl) ?_
  refine s_getI hC dX5_write_1 fk_5_15 ty_1 ?_
  refine x_bipush hC dX5_write_4 bp_9 ?_
  refine x_icmp_lt (tgt := 11) hC dX5_write_6 (by decide) (fun hc => ?_) (fun hc => ?_)
  · have hp := hp.1 hc
    refine x_aload_n hC dX5_write_11 (lm 0 rfl) ?_
    refine s_getR (r := 2) hC dX5_write_12 fk_5_11 ty_1 (fr_5_0 ty_1).1 ?_
    refine x_aload_n hC dX5_write_15 (lm 0 rfl) ?_
    refine s_getI hC dX5_write_16 fk_5_15 ty_1 ?_
    refine x_iload_n hC dX5_write_19 (lm 1 rfl) ?_
    obtain ⟨ho, hp⟩ := hp
    refine s_iast hC dX5_write_20 ((fr_5_0 ty_1).2) ho ?_
    refine x_aload_n hC dX5_write_21 (lm 0 rfl) ?_
    refine x_dup hC dX5_write_22 rfl ?_
    refine s_getI hC dX5_write_23 fk_5_15 ty_1 ?_
    refine x_iconst hC dX5_write_26 ic_1 ?_
    refine x_iadd hC dX5_write_27 ?_
    refine s_putI hC dX5_write_28 fk_5_15 rfl rfl ty_1 ?_
    refine x_iconst hC dX5_write_31 ic_1 ?_
    exact x_zret hC hE dX5_write_32 (Or.inr rfl) ⟨_, _, rfl, rfl, hp⟩
  · have hp := hp.2 hc
    refine x_iconst hC dX5_write_9 ic_0 ?_
    exact x_zret hC hE dX5_write_10 (Or.inl rfl) ⟨_, _, rfl, rfl, hp⟩
theorem dX5_wipe_0 : decode cX5_wipe 0 = .ok (.aload_n 0, 1) := by decide +kernel
theorem dX5_wipe_1 : decode cX5_wipe 1 = .ok (.getfield 15, 3) := by decide +kernel
theorem dX5_wipe_4 : decode cX5_wipe 4 = .ok (.istore_n 1, 1) := by decide +kernel
theorem dX5_wipe_5 : decode cX5_wipe 5 = .ok (.aload_n 0, 1) := by decide +kernel
theorem dX5_wipe_6 : decode cX5_wipe 6 = .ok (.iconst 0, 1) := by decide +kernel
theorem dX5_wipe_7 : decode cX5_wipe 7 = .ok (.putfield 15, 3) := by decide +kernel
theorem dX5_wipe_10 : decode cX5_wipe 10 = .ok (.iload_n 1, 1) := by decide +kernel
theorem dX5_wipe_11 : decode cX5_wipe 11 = .ok (.ireturn, 1) := by decide +kernel
abbrev rm_X5_wipe : Room := { frames := 0, cells := 0, slots := 0, locals := 0 }
def P_X5_wipe  (h : HP) (Q : Int32 → HP → Prop) : Prop := Q (h.1 1 1) (si h 1 1 0)
set_option maxHeartbeats 4000000 in
theorem t_X5_wipe  {h : HP} {Q : Int32 → HP → Prop}  (hp : P_X5_wipe  h Q) : MT yX5_wipe cX5_wipe 2 (some .int) rm_X5_wipe [.ref 1] gC SH (emb h) (pI Q) := by
  refine MT.of (by decide +kernel) (Nat.le_of_ble_eq_true rfl) (fun C hC hE => ?_)
  show SW C gC 0 [(0, .ref 1)] [] h
  unfold P_X5_wipe at hp
  refine x_aload_n hC dX5_wipe_0 (lm 0 rfl) ?_
  refine s_getI hC dX5_wipe_1 fk_5_15 ty_1 ?_
  refine x_istore_n (lv' := [(1, .int (h.1 1 1)), (0, .ref 1)]) hC dX5_wipe_4 (by decide) rfl ?_
  refine x_aload_n hC dX5_wipe_5 (lm 1 rfl) ?_
  refine x_iconst hC dX5_wipe_6 ic_0 ?_
  refine s_putI hC dX5_wipe_7 fk_5_15 rfl rfl ty_1 ?_
  refine x_iload_n hC dX5_wipe_10 (lm 0 rfl) ?_
  exact x_iret hC hE dX5_wipe_11 ⟨_, _, rfl, rfl, hp⟩
theorem dX5_firstFault_0 : decode cX5_firstFault 0 = .ok (.iconst 0, 1) := by decide +kernel
theorem dX5_firstFault_1 : decode cX5_firstFault 1 = .ok (.istore_n 1, 1) := by decide +kernel
theorem dX5_firstFault_2 : decode cX5_firstFault 2 = .ok (.iload_n 1, 1) := by decide +kernel
theorem dX5_firstFault_3 : decode cX5_firstFault 3 = .ok (.aload_n 0, 1) := by decide +kernel
theorem dX5_firstFault_4 : decode cX5_firstFault 4 = .ok (.getfield 15, 3) := by decide +kernel
theorem dX5_firstFault_7 : decode cX5_firstFault 7 = .ok (.if_icmp .ge 41, 3) := by decide +kernel
theorem dX5_firstFault_10 : decode cX5_firstFault 10 = .ok (.iload_n 1, 1) := by decide +kernel
theorem dX5_firstFault_11 : decode cX5_firstFault 11 = .ok (.getstatic 19, 3) := by decide +kernel
theorem dX5_firstFault_14 : decode cX5_firstFault 14 = .ok (.arraylength, 1) := by decide +kernel
theorem dX5_firstFault_15 : decode cX5_firstFault 15 = .ok (.if_icmp .ge 25, 3) := by decide +kernel
theorem dX5_firstFault_18 : decode cX5_firstFault 18 = .ok (.aload_n 0, 1) := by decide +kernel
theorem dX5_firstFault_19 : decode cX5_firstFault 19 = .ok (.getfield 11, 3) := by decide +kernel
theorem dX5_firstFault_22 : decode cX5_firstFault 22 = .ok (.iload_n 1, 1) := by decide +kernel
theorem dX5_firstFault_23 : decode cX5_firstFault 23 = .ok (.iaload, 1) := by decide +kernel
theorem dX5_firstFault_24 : decode cX5_firstFault 24 = .ok (.getstatic 19, 3) := by decide +kernel
theorem dX5_firstFault_27 : decode cX5_firstFault 27 = .ok (.iload_n 1, 1) := by decide +kernel
theorem dX5_firstFault_28 : decode cX5_firstFault 28 = .ok (.iaload, 1) := by decide +kernel
theorem dX5_firstFault_29 : decode cX5_firstFault 29 = .ok (.getstatic 22, 3) := by decide +kernel
theorem dX5_firstFault_32 : decode cX5_firstFault 32 = .ok (.iload_n 1, 1) := by decide +kernel
theorem dX5_firstFault_33 : decode cX5_firstFault 33 = .ok (.iaload, 1) := by decide +kernel
theorem dX5_firstFault_34 : decode cX5_firstFault 34 = .ok (.invokestatic 25, 3) := by decide +kernel
theorem dX5_firstFault_37 : decode cX5_firstFault 37 = .ok (.ifCond .ne 5, 3) := by decide +kernel
theorem dX5_firstFault_40 : decode cX5_firstFault 40 = .ok (.iload_n 1, 1) := by decide +kernel
theorem dX5_firstFault_41 : decode cX5_firstFault 41 = .ok (.ireturn, 1) := by decide +kernel
theorem dX5_firstFault_42 : decode cX5_firstFault 42 = .ok (.iinc 1 1, 3) := by decide +kernel
theorem dX5_firstFault_45 : decode cX5_firstFault 45 = .ok (.goto (-43), 3) := by decide +kernel
theorem dX5_firstFault_48 : decode cX5_firstFault 48 = .ok (.aload_n 0, 1) := by decide +kernel
theorem dX5_firstFault_49 : decode cX5_firstFault 49 = .ok (.getfield 15, 3) := by decide +kernel
theorem dX5_firstFault_52 : decode cX5_firstFault 52 = .ok (.ireturn, 1) := by decide +kernel
abbrev rm_X5_firstFault : Room := { frames := 1, cells := 0, slots := 0, locals := 22 }
def P_X5_firstFault  (h : HP) (Q : Int32 → HP → Prop) : Prop := Lp2 (fun X_2 (i1_2 : Int32) (h_2 : HP) => (((h_2.1 1 1) ≤ i1_2) → (Q (h_2.1 1 1) h_2)) ∧ ((¬ (h_2.1 1 1) ≤ i1_2) → (((7 ≤ i1_2) → Q i1_2 h_2) ∧ ((¬ 7 ≤ i1_2) → ((vp_in i1_2 9) ∧ ((vp_in i1_2 7) ∧ ((vp_in i1_2 7) ∧ (P_X8_within (h_2.1 2 i1_2.toNatClampNeg) (lowI i1_2.toNatClampNeg) (highI i1_2.toNatClampNeg) h_2 (fun (v_34 : Int32) (h_34 : HP) => ((¬ v_34 = 0) → (X_2 (i1_2 + 1) h_34)) ∧ ((v_34 = 0) → Q i1_2 h_34)))))))))) 0 h
set_option maxHeartbeats 4000000 in
theorem t_X5_firstFault  {h : HP} {Q : Int32 → HP → Prop}  (hp : P_X5_firstFault  h Q) : MT yX5_firstFault cX5_firstFault 2 (some .int) rm_X5_firstFault [.ref 1] gC SH (emb h) (pI Q) := by
  refine MT.of (by decide +kernel) (Nat.le_of_ble_eq_true rfl) (fun C hC hE => ?_)
  show SW C gC 0 [(0, .ref 1)] [] h
  unfold P_X5_firstFault at hp
  refine x_iconst hC dX5_firstFault_0 ic_0 ?_
  refine x_istore_n (lv' := [(1, .int 0), (0, .ref 1)]) hC dX5_firstFault_1 (by decide) rfl ?_
  refine x_subk (lv' := [(0, .ref 1), (1, .int 0)]) [1, 0] rfl ?_
  refine hp (fun i1_2 h_2 => SW C gC 2 [(0, .ref 1), (1, .int i1_2)] [] h_2) (fun i1_2 h_2 hp => ?_)
  refine x_iload_n hC dX5_firstFault_2 (lm 1 rfl) ?_
  refine x_aload_n hC dX5_firstFault_3 (lm 0 rfl) ?_
  refine s_getI hC dX5_firstFault_4 fk_5_15 ty_1 ?_
  refine x_icmp_ge (tgt := 48) hC dX5_firstFault_7 (by decide) (fun hc => ?_) (fun hc => ?_)
  · have hp := hp.1 hc
    refine x_aload_n hC dX5_firstFault_48 (lm 0 rfl) ?_
    refine s_getI hC dX5_firstFault_49 fk_5_15 ty_1 ?_
    exact x_iret hC hE dX5_firstFault_52 ⟨_, _, rfl, rfl, hp⟩
  · have hp := hp.2 hc
    refine x_iload_n hC dX5_firstFault_10 (lm 1 rfl) ?_
    refine x_gets900 hC dX5_firstFault_11 sk_5_19 ?_
    refine x_tlen900 hC dX5_firstFault_14 ?_
    refine x_icmp_ge (tgt := 40) hC dX5_firstFault_15 (by decide) (fun hc => ?_) (fun hc => ?_)
    · have hp := hp.1 hc
      refine x_iload_n hC dX5_firstFault_40 (lm 1 rfl) ?_
      exact x_iret hC hE dX5_firstFault_41 ⟨_, _, rfl, rfl, hp⟩
    · have hp := hp.2 hc
      refine x_aload_n hC dX5_firstFault_18 (lm 0 rfl) ?_
      refine s_getR (r := 2) hC dX5_firstFault_19 fk_5_11 ty_1 (fr_5_0 ty_1).1 ?_
      refine x_iload_n hC dX5_firstFault_22 (lm 1 rfl) ?_
      obtain ⟨ho, hp⟩ := hp
      refine s_iald hC dX5_firstFault_23 ((fr_5_0 ty_1).2) ho ?_
      refine x_gets900 hC dX5_firstFault_24 sk_5_19 ?_
      refine x_iload_n hC dX5_firstFault_27 (lm 1 rfl) ?_
      obtain ⟨ho, hp⟩ := hp
      refine x_ti900 hC dX5_firstFault_28 ho ?_
      refine x_gets901 hC dX5_firstFault_29 sk_5_22 ?_
      refine x_iload_n hC dX5_firstFault_32 (lm 1 rfl) ?_
      obtain ⟨ho, hp⟩ := hp
      refine x_ti901 hC dX5_firstFault_33 ho ?_
      refine s_callNi (avs := [.int (h_2.1 2 i1_2.toNatClampNeg), .int (lowI i1_2.toNatClampNeg), .int (highI i1_2.toNatClampNeg)]) (st := []) hC dX5_firstFault_34 nl_5_25 ms_X8_within rfl (t_X8_within  hp) (Nat.le_of_ble_eq_true rfl) ⟨rfl, rfl⟩ ⟨Nat.le_of_ble_eq_true rfl, Nat.le_of_ble_eq_true rfl⟩ (fun v_34 h_34 hp => ?_)
      refine x_if_ne (tgt := 42) hC dX5_firstFault_37 (by decide) (fun hc => ?_) (fun hc => ?_)
      · have hp := hp.1 hc
        refine x_iinc (u := i1_2 + 1) (lv' := [(1, .int (i1_2 + 1)), (0, .ref 1)]) hC dX5_firstFault_42 (lm 1 rfl) (congrArg _ ic_1) (by decide) rfl ?_
        refine x_goto (tgt := 2) hC dX5_firstFault_45 (by decide) ?_
        exact x_subk [1, 0] rfl hp
      · have hp := hp.2 hc
        refine x_iload_n hC dX5_firstFault_40 (lm 1 rfl) ?_
        exact x_iret hC hE dX5_firstFault_41 ⟨_, _, rfl, rfl, hp⟩
theorem dX5_isAir_0 : decode cX5_isAir 0 = .ok (.aload_n 0, 1) := by decide +kernel
theorem dX5_isAir_1 : decode cX5_isAir 1 = .ok (.getfield 15, 3) := by decide +kernel
theorem dX5_isAir_4 : decode cX5_isAir 4 = .ok (.getstatic 19, 3) := by decide +kernel
theorem dX5_isAir_7 : decode cX5_isAir 7 = .ok (.arraylength, 1) := by decide +kernel
theorem dX5_isAir_8 : decode cX5_isAir 8 = .ok (.if_icmp .ne 18, 3) := by decide +kernel
theorem dX5_isAir_11 : decode cX5_isAir 11 = .ok (.aload_n 0, 1) := by decide +kernel
theorem dX5_isAir_12 : decode cX5_isAir 12 = .ok (.invokevirtual 29, 3) := by decide +kernel
theorem dX5_isAir_15 : decode cX5_isAir 15 = .ok (.aload_n 0, 1) := by decide +kernel
theorem dX5_isAir_16 : decode cX5_isAir 16 = .ok (.getfield 15, 3) := by decide +kernel
theorem dX5_isAir_19 : decode cX5_isAir 19 = .ok (.if_icmp .ne 7, 3) := by decide +kernel
theorem dX5_isAir_22 : decode cX5_isAir 22 = .ok (.iconst 1, 1) := by decide +kernel
theorem dX5_isAir_23 : decode cX5_isAir 23 = .ok (.goto 4, 3) := by decide +kernel
theorem dX5_isAir_26 : decode cX5_isAir 26 = .ok (.iconst 0, 1) := by decide +kernel
theorem dX5_isAir_27 : decode cX5_isAir 27 = .ok (.ireturn, 1) := by decide +kernel
abbrev rm_X5_isAir : Room := { frames := 2, cells := 0, slots := 0, locals := 43 }
def P_X5_isAir  (h : HP) (Q : Int32 → HP → Prop) : Prop := ((¬ (h.1 1 1) = 7) → Q 0 h) ∧ (((h.1 1 1) = 7) → (P_X5_firstFault h (fun (v_12 : Int32) (h_12 : HP) => ((¬ v_12 = (h_12.1 1 1)) → Q 0 h_12) ∧ ((v_12 = (h_12.1 1 1)) → Q 1 h_12))))
set_option maxHeartbeats 4000000 in
theorem t_X5_isAir  {h : HP} {Q : Int32 → HP → Prop}  (hp : P_X5_isAir  h Q) : MT yX5_isAir cX5_isAir 1 (some .boolean) rm_X5_isAir [.ref 1] gC SH (emb h) (pI Q) := by
  refine MT.of (by decide +kernel) (Nat.le_of_ble_eq_true rfl) (fun C hC hE => ?_)
  show SW C gC 0 [(0, .ref 1)] [] h
  unfold P_X5_isAir at hp
  refine x_aload_n hC dX5_isAir_0 (lm 0 rfl) ?_
  refine s_getI hC dX5_isAir_1 fk_5_15 ty_1 ?_
  refine x_gets900 hC dX5_isAir_4 sk_5_19 ?_
  refine x_tlen900 hC dX5_isAir_7 ?_
  refine x_icmp_ne (tgt := 26) hC dX5_isAir_8 (by decide) (fun hc => ?_) (fun hc => ?_)
  · have hp := hp.1 hc
    refine x_iconst hC dX5_isAir_26 ic_0 ?_
    exact x_zret hC hE dX5_isAir_27 (Or.inl rfl) ⟨_, _, rfl, rfl, hp⟩
  · have hp := hp.2 hc
    refine x_aload_n hC dX5_isAir_11 (lm 0 rfl) ?_
    refine s_callVi (avs := []) (st := []) hC dX5_isAir_12 ml_5_29 mi_X5_firstFault ty_1 rfl (t_X5_firstFault  hp) (Nat.le_of_ble_eq_true rfl) ⟨rfl, rfl⟩ ⟨Nat.le_of_ble_eq_true rfl, Nat.le_of_ble_eq_true rfl⟩ (fun v_12 h_12 hp => ?_)
    refine x_aload_n hC dX5_isAir_15 (lm 0 rfl) ?_
    refine s_getI hC dX5_isAir_16 fk_5_15 ty_1 ?_
    refine x_icmp_ne (tgt := 26) hC dX5_isAir_19 (by decide) (fun hc => ?_) (fun hc => ?_)
    · have hp := hp.1 hc
      refine x_iconst hC dX5_isAir_26 ic_0 ?_
      exact x_zret hC hE dX5_isAir_27 (Or.inl rfl) ⟨_, _, rfl, rfl, hp⟩
    · have hp := hp.2 hc
      refine x_iconst hC dX5_isAir_22 ic_1 ?_
      refine x_goto (tgt := 27) hC dX5_isAir_23 (by decide) ?_
      exact x_zret hC hE dX5_isAir_27 (Or.inr rfl) ⟨_, _, rfl, rfl, hp⟩
theorem dX6_clear_0 : decode cX6_clear 0 = .ok (.aload_n 0, 1) := by decide +kernel
theorem dX6_clear_1 : decode cX6_clear 1 = .ok (.iconst 0, 1) := by decide +kernel
theorem dX6_clear_2 : decode cX6_clear 2 = .ok (.putfield 22, 3) := by decide +kernel
theorem dX6_clear_5 : decode cX6_clear 5 = .ok (.return_, 1) := by decide +kernel
abbrev rm_X6_clear : Room := { frames := 0, cells := 0, slots := 0, locals := 0 }
def P_X6_clear  (h : HP) (Q : HP → Prop) : Prop := Q (si h 5 2 0)
set_option maxHeartbeats 4000000 in
theorem t_X6_clear  {h : HP} {Q : HP → Prop}  (hp : P_X6_clear  h Q) : MT yX6_clear cX6_clear 1 none rm_X6_clear [.ref 5] gC SH (emb h) (pV Q) := by
  refine MT.of (by decide +kernel) (Nat.le_of_ble_eq_true rfl) (fun C hC hE => ?_)
  show SW C gC 0 [(0, .ref 5)] [] h
  unfold P_X6_clear at hp
  refine x_aload_n hC dX6_clear_0 (lm 0 rfl) ?_
  refine x_iconst hC dX6_clear_1 ic_0 ?_
  refine s_putI hC dX6_clear_2 fk_6_22 rfl rfl ty_5 ?_
  exact x_vret hC hE dX6_clear_5 ⟨_, rfl, rfl, hp⟩
theorem dX6_has_0 : decode cX6_has 0 = .ok (.iload_n 1, 1) := by decide +kernel
theorem dX6_has_1 : decode cX6_has 1 = .ok (.iconst 0, 1) := by decide +kernel
theorem dX6_has_2 : decode cX6_has 2 = .ok (.aload_n 0, 1) := by decide +kernel
theorem dX6_has_3 : decode cX6_has 3 = .ok (.getfield 22, 3) := by decide +kernel
theorem dX6_has_6 : decode cX6_has 6 = .ok (.iconst 1, 1) := by decide +kernel
theorem dX6_has_7 : decode cX6_has 7 = .ok (.isub, 1) := by decide +kernel
theorem dX6_has_8 : decode cX6_has 8 = .ok (.invokestatic 26, 3) := by decide +kernel
theorem dX6_has_11 : decode cX6_has 11 = .ok (.ireturn, 1) := by decide +kernel
abbrev rm_X6_has : Room := { frames := 1, cells := 0, slots := 0, locals := 22 }
def P_X6_has (i1 : Int32) (h : HP) (Q : Int32 → HP → Prop) : Prop := P_X8_within i1 0 ((h.1 5 2) - 1) h (fun (v_8 : Int32) (h_8 : HP) => (v_8 = 0 ∨ v_8 = 1) ∧ Q v_8 h_8)
set_option maxHeartbeats 4000000 in
theorem t_X6_has {i1 : Int32} {h : HP} {Q : Int32 → HP → Prop}  (hp : P_X6_has i1 h Q) : MT yX6_has cX6_has 2 (some .boolean) rm_X6_has [.ref 5, .int i1] gC SH (emb h) (pI Q) := by
  refine MT.of (by decide +kernel) (Nat.le_of_ble_eq_true rfl) (fun C hC hE => ?_)
  show SW C gC 0 [(0, .ref 5), (1, .int i1)] [] h
  unfold P_X6_has at hp
  refine x_iload_n hC dX6_has_0 (lm 1 rfl) ?_
  refine x_iconst hC dX6_has_1 ic_0 ?_
  refine x_aload_n hC dX6_has_2 (lm 0 rfl) ?_
  refine s_getI hC dX6_has_3 fk_6_22 ty_5 ?_
  refine x_iconst hC dX6_has_6 ic_1 ?_
  refine x_isub hC dX6_has_7 ?_
  refine s_callNi (avs := [.int i1, .int 0, .int ((h.1 5 2) - 1)]) (st := []) hC dX6_has_8 nl_6_26 ms_X8_within rfl (t_X8_within  hp) (Nat.le_of_ble_eq_true rfl) ⟨rfl, rfl⟩ ⟨Nat.le_of_ble_eq_true rfl, Nat.le_of_ble_eq_true rfl⟩ (fun v_8 h_8 hp => ?_)
  obtain ⟨ho, hp⟩ := hp
  exact x_zret hC hE dX6_has_11 ho ⟨_, _, rfl, rfl, hp⟩
theorem dX6_at_0 : decode cX6_at 0 = .ok (.aload_n 0, 1) := by decide +kernel
theorem dX6_at_1 : decode cX6_at 1 = .ok (.getfield 13, 3) := by decide +kernel
theorem dX6_at_4 : decode cX6_at 4 = .ok (.aload_n 0, 1) := by decide +kernel
theorem dX6_at_5 : decode cX6_at 5 = .ok (.iload_n 1, 1) := by decide +kernel
theorem dX6_at_6 : decode cX6_at 6 = .ok (.invokevirtual 30, 3) := by decide +kernel
theorem dX6_at_9 : decode cX6_at 9 = .ok (.ifCond .eq 7, 3) := by decide +kernel
theorem dX6_at_12 : decode cX6_at 12 = .ok (.iload_n 1, 1) := by decide +kernel
theorem dX6_at_13 : decode cX6_at 13 = .ok (.goto 4, 3) := by decide +kernel
theorem dX6_at_16 : decode cX6_at 16 = .ok (.iconst 0, 1) := by decide +kernel
theorem dX6_at_17 : decode cX6_at 17 = .ok (.aaload, 1) := by decide +kernel
theorem dX6_at_18 : decode cX6_at 18 = .ok (.areturn, 1) := by decide +kernel
abbrev rm_X6_at : Room := { frames := 2, cells := 0, slots := 0, locals := 43 }
def P_X6_at (i1 : Int32) (h : HP) (Q : Nat → HP → Prop) : Prop := P_X6_has i1 h (fun (v_6 : Int32) (h_6 : HP) => ((v_6 = 0) → ((vp_in 0 5) ∧ (Ty gC (h_6.2.1 ((0 : Int32).toNatClampNeg)) 2 0) ∧ (Q (h_6.2.1 ((0 : Int32).toNatClampNeg)) h_6))) ∧ ((¬ v_6 = 0) → ((vp_in i1 5) ∧ (Ty gC (h_6.2.1 i1.toNatClampNeg) 2 0) ∧ (Q (h_6.2.1 i1.toNatClampNeg) h_6))))
set_option maxHeartbeats 4000000 in
theorem t_X6_at {i1 : Int32} {h : HP} {Q : Nat → HP → Prop}  (hp : P_X6_at i1 h Q) : MT yX6_at cX6_at 2 (some (.object "BoundFrames$Letter")) rm_X6_at [.ref 5, .int i1] gC SH (emb h) (pR Q) := by
  refine MT.of (by decide +kernel) (Nat.le_of_ble_eq_true rfl) (fun C hC hE => ?_)
  show SW C gC 0 [(0, .ref 5), (1, .int i1)] [] h
  unfold P_X6_at at hp
  refine x_aload_n hC dX6_at_0 (lm 0 rfl) ?_
  refine s_getR (r := 6) hC dX6_at_1 fk_6_13 ty_5 (fr_6_1 ty_5).1 ?_
  refine x_aload_n hC dX6_at_4 (lm 0 rfl) ?_
  refine x_iload_n hC dX6_at_5 (lm 1 rfl) ?_
  refine s_callVi (avs := [.int i1]) (st := [.ref 6]) hC dX6_at_6 ml_6_30 mi_X6_has ty_5 rfl (t_X6_has  hp) (Nat.le_of_ble_eq_true rfl) ⟨rfl, rfl⟩ ⟨Nat.le_of_ble_eq_true rfl, Nat.le_of_ble_eq_true rfl⟩ (fun v_6 h_6 hp => ?_)
  refine x_if_eq (tgt := 16) hC dX6_at_9 (by decide) (fun hc => ?_) (fun hc => ?_)
  · have hp := hp.1 hc
    refine x_iconst hC dX6_at_16 ic_0 ?_
    obtain ⟨ho, ho2_17, hp⟩ := hp
    refine s_aaldL hC dX6_at_17 ty_6 ho ?_
    exact x_aret hC hE dX6_at_18 ⟨_, _, rfl, rfl, hp⟩
  · have hp := hp.2 hc
    refine x_iload_n hC dX6_at_12 (lm 1 rfl) ?_
    refine x_goto (tgt := 17) hC dX6_at_13 (by decide) ?_
    obtain ⟨ho, ho2_17, hp⟩ := hp
    refine s_aaldL hC dX6_at_17 ty_6 ho ?_
    exact x_aret hC hE dX6_at_18 ⟨_, _, rfl, rfl, hp⟩
theorem dX6_send_0 : decode cX6_send 0 = .ok (.aload_n 0, 1) := by decide +kernel
theorem dX6_send_1 : decode cX6_send 1 = .ok (.getfield 22, 3) := by decide +kernel
theorem dX6_send_4 : decode cX6_send 4 = .ok (.iconst 5, 1) := by decide +kernel
theorem dX6_send_5 : decode cX6_send 5 = .ok (.if_icmp .ge 13, 3) := by decide +kernel
theorem dX6_send_8 : decode cX6_send 8 = .ok (.aload_n 0, 1) := by decide +kernel
theorem dX6_send_9 : decode cX6_send 9 = .ok (.dup, 1) := by decide +kernel
theorem dX6_send_10 : decode cX6_send 10 = .ok (.getfield 22, 3) := by decide +kernel
theorem dX6_send_13 : decode cX6_send 13 = .ok (.iconst 1, 1) := by decide +kernel
theorem dX6_send_14 : decode cX6_send 14 = .ok (.iadd, 1) := by decide +kernel
theorem dX6_send_15 : decode cX6_send 15 = .ok (.putfield 22, 3) := by decide +kernel
theorem dX6_send_18 : decode cX6_send 18 = .ok (.aload_n 0, 1) := by decide +kernel
theorem dX6_send_19 : decode cX6_send 19 = .ok (.getfield 13, 3) := by decide +kernel
theorem dX6_send_22 : decode cX6_send 22 = .ok (.aload_n 0, 1) := by decide +kernel
theorem dX6_send_23 : decode cX6_send 23 = .ok (.getfield 22, 3) := by decide +kernel
theorem dX6_send_26 : decode cX6_send 26 = .ok (.iconst 1, 1) := by decide +kernel
theorem dX6_send_27 : decode cX6_send 27 = .ok (.isub, 1) := by decide +kernel
theorem dX6_send_28 : decode cX6_send 28 = .ok (.aaload, 1) := by decide +kernel
theorem dX6_send_29 : decode cX6_send 29 = .ok (.astore_n 3, 1) := by decide +kernel
theorem dX6_send_30 : decode cX6_send 30 = .ok (.aload_n 3, 1) := by decide +kernel
theorem dX6_send_31 : decode cX6_send 31 = .ok (.iload_n 1, 1) := by decide +kernel
theorem dX6_send_32 : decode cX6_send 32 = .ok (.iload_n 2, 1) := by decide +kernel
theorem dX6_send_33 : decode cX6_send 33 = .ok (.invokevirtual 34, 3) := by decide +kernel
theorem dX6_send_36 : decode cX6_send 36 = .ok (.aload_n 0, 1) := by decide +kernel
theorem dX6_send_37 : decode cX6_send 37 = .ok (.getfield 17, 3) := by decide +kernel
theorem dX6_send_40 : decode cX6_send 40 = .ok (.dup, 1) := by decide +kernel
theorem dX6_send_41 : decode cX6_send 41 = .ok (.getfield 38, 3) := by decide +kernel
theorem dX6_send_44 : decode cX6_send 44 = .ok (.iconst 1, 1) := by decide +kernel
theorem dX6_send_45 : decode cX6_send 45 = .ok (.iadd, 1) := by decide +kernel
theorem dX6_send_46 : decode cX6_send 46 = .ok (.putfield 38, 3) := by decide +kernel
theorem dX6_send_49 : decode cX6_send 49 = .ok (.aload_n 3, 1) := by decide +kernel
theorem dX6_send_50 : decode cX6_send 50 = .ok (.areturn, 1) := by decide +kernel
abbrev rm_X6_send : Room := { frames := 1, cells := 0, slots := 0, locals := 22 }
def P_X6_send_j18 (_q0 : Nat) (i1 : Int32) (i2 : Int32) (h : HP)  (Q : Nat → HP → Prop) : Prop := (vp_in ((h.1 5 2) - 1) 5) ∧ (Ty gC (h.2.1 ((h.1 5 2) - 1).toNatClampNeg) 2 0) ∧ (P_X2_begin (h.2.1 ((h.1 5 2) - 1).toNatClampNeg) i1 i2 h (fun (h_33 : HP) => Q (h.2.1 ((h.1 5 2) - 1).toNatClampNeg) (si h_33 4 0 ((h_33.1 4 0) + 1))))
def P_X6_send (i1 : Int32) (i2 : Int32) (h : HP) (Q : Nat → HP → Prop) : Prop := ((5 ≤ (h.1 5 2)) → P_X6_send_j18 5 i1 i2 h Q) ∧ ((¬ 5 ≤ (h.1 5 2)) → (P_X6_send_j18 5 i1 i2 (si h 5 2 ((h.1 5 2) + 1)) Q))
set_option maxHeartbeats 4000000 in
theorem l_X6_send_j18 {i1 : Int32} {i2 : Int32} {h : HP}  {Q : Nat → HP → Prop} {C : Cx} (hC : xOk C cX6_send yX6_send.cls 4 rm_X6_send (some (.object "BoundFrames$Letter"))) (hE : xEnd C gC SH (pR Q))   (hp : P_X6_send_j18 5 i1 i2 h  Q) : SW C gC 18 [(0, .ref 5), (1, .int i1), (2, .int i2)] [] h := by
  unfold P_X6_send_j18 at hp
  refine x_aload_n hC dX6_send_18 (lm 0 rfl) ?_
  refine s_getR (r := 6) hC dX6_send_19 fk_6_13 ty_5 (fr_6_1 ty_5).1 ?_
  refine x_aload_n hC dX6_send_22 (lm 0 rfl) ?_
  refine s_getI hC dX6_send_23 fk_6_22 ty_5 ?_
  refine x_iconst hC dX6_send_26 ic_1 ?_
  refine x_isub hC dX6_send_27 ?_
  obtain ⟨ho, ho2_28, hp⟩ := hp
  refine s_aaldL hC dX6_send_28 ty_6 ho ?_
  refine x_astore_n (lv' := [(3, .ref (h.2.1 ((h.1 5 2) - 1).toNatClampNeg)), (0, .ref 5), (1, .int i1), (2, .int i2)]) hC dX6_send_29 (by decide) rfl ?_
  refine x_aload_n hC dX6_send_30 (lm 0 rfl) ?_
  refine x_iload_n hC dX6_send_31 (lm 2 rfl) ?_
  refine x_iload_n hC dX6_send_32 (lm 3 rfl) ?_
  refine s_callVv (avs := [.int i1, .int i2]) (st := []) hC dX6_send_33 ml_6_34 mi_X2_begin ho2_28 rfl (t_X2_begin ho2_28 hp) (Nat.le_of_ble_eq_true rfl) ⟨rfl, rfl⟩ ⟨Nat.le_of_ble_eq_true rfl, Nat.le_of_ble_eq_true rfl⟩ (fun h_33 hp => ?_)
  refine x_aload_n hC dX6_send_36 (lm 1 rfl) ?_
  refine s_getR (r := 4) hC dX6_send_37 fk_6_17 ty_5 (fr_6_0 ty_5).1 ?_
  refine x_dup hC dX6_send_40 rfl ?_
  refine s_getI hC dX6_send_41 fk_6_38 ty_4 ?_
  refine x_iconst hC dX6_send_44 ic_1 ?_
  refine x_iadd hC dX6_send_45 ?_
  refine s_putI hC dX6_send_46 fk_6_38 rfl rfl ty_4 ?_
  refine x_aload_n hC dX6_send_49 (lm 0 rfl) ?_
  exact x_aret hC hE dX6_send_50 ⟨_, _, rfl, rfl, hp⟩
set_option maxHeartbeats 4000000 in
theorem t_X6_send {i1 : Int32} {i2 : Int32} {h : HP} {Q : Nat → HP → Prop}  (hp : P_X6_send i1 i2 h Q) : MT yX6_send cX6_send 4 (some (.object "BoundFrames$Letter")) rm_X6_send [.ref 5, .int i1, .int i2] gC SH (emb h) (pR Q) := by
  refine MT.of (by decide +kernel) (Nat.le_of_ble_eq_true rfl) (fun C hC hE => ?_)
  show SW C gC 0 [(0, .ref 5), (1, .int i1), (2, .int i2)] [] h
  unfold P_X6_send at hp
  refine x_aload_n hC dX6_send_0 (lm 0 rfl) ?_
  refine s_getI hC dX6_send_1 fk_6_22 ty_5 ?_
  refine x_iconst hC dX6_send_4 ic_5 ?_
  refine x_icmp_ge (tgt := 18) hC dX6_send_5 (by decide) (fun hc => ?_) (fun hc => ?_)
  · have hp := hp.1 hc
    exact x_subk [0, 1, 2] rfl (l_X6_send_j18 hC hE   hp)
  · have hp := hp.2 hc
    refine x_aload_n hC dX6_send_8 (lm 0 rfl) ?_
    refine x_dup hC dX6_send_9 rfl ?_
    refine s_getI hC dX6_send_10 fk_6_22 ty_5 ?_
    refine x_iconst hC dX6_send_13 ic_1 ?_
    refine x_iadd hC dX6_send_14 ?_
    refine s_putI hC dX6_send_15 fk_6_22 rfl rfl ty_5 ?_
    exact x_subk [0, 1, 2] rfl (l_X6_send_j18 hC hE   hp)
theorem dX6_take_0 : decode cX6_take 0 = .ok (.aload_n 0, 1) := by decide +kernel
theorem dX6_take_1 : decode cX6_take 1 = .ok (.iload_n 1, 1) := by decide +kernel
theorem dX6_take_2 : decode cX6_take 2 = .ok (.invokevirtual 43, 3) := by decide +kernel
theorem dX6_take_5 : decode cX6_take 5 = .ok (.astore_n 2, 1) := by decide +kernel
theorem dX6_take_6 : decode cX6_take 6 = .ok (.aload_n 0, 1) := by decide +kernel
theorem dX6_take_7 : decode cX6_take 7 = .ok (.iload_n 1, 1) := by decide +kernel
theorem dX6_take_8 : decode cX6_take 8 = .ok (.invokevirtual 30, 3) := by decide +kernel
theorem dX6_take_11 : decode cX6_take 11 = .ok (.ifCond .eq 47, 3) := by decide +kernel
theorem dX6_take_14 : decode cX6_take 14 = .ok (.iload_n 1, 1) := by decide +kernel
theorem dX6_take_15 : decode cX6_take 15 = .ok (.istore_n 3, 1) := by decide +kernel
theorem dX6_take_16 : decode cX6_take 16 = .ok (.iload_n 3, 1) := by decide +kernel
theorem dX6_take_17 : decode cX6_take 17 = .ok (.iconst 4, 1) := by decide +kernel
theorem dX6_take_18 : decode cX6_take 18 = .ok (.if_icmp .ge 23, 3) := by decide +kernel
theorem dX6_take_21 : decode cX6_take 21 = .ok (.aload_n 0, 1) := by decide +kernel
theorem dX6_take_22 : decode cX6_take 22 = .ok (.getfield 13, 3) := by decide +kernel
theorem dX6_take_25 : decode cX6_take 25 = .ok (.iload_n 3, 1) := by decide +kernel
theorem dX6_take_26 : decode cX6_take 26 = .ok (.aload_n 0, 1) := by decide +kernel
theorem dX6_take_27 : decode cX6_take 27 = .ok (.getfield 13, 3) := by decide +kernel
theorem dX6_take_30 : decode cX6_take 30 = .ok (.iload_n 3, 1) := by decide +kernel
theorem dX6_take_31 : decode cX6_take 31 = .ok (.iconst 1, 1) := by decide +kernel
theorem dX6_take_32 : decode cX6_take 32 = .ok (.iadd, 1) := by decide +kernel
theorem dX6_take_33 : decode cX6_take 33 = .ok (.aaload, 1) := by decide +kernel
theorem dX6_take_34 : decode cX6_take 34 = .ok (.aastore, 1) := by decide +kernel
theorem dX6_take_35 : decode cX6_take 35 = .ok (.iinc 3 1, 3) := by decide +kernel
theorem dX6_take_38 : decode cX6_take 38 = .ok (.goto (-22), 3) := by decide +kernel
theorem dX6_take_41 : decode cX6_take 41 = .ok (.aload_n 0, 1) := by decide +kernel
theorem dX6_take_42 : decode cX6_take 42 = .ok (.getfield 13, 3) := by decide +kernel
theorem dX6_take_45 : decode cX6_take 45 = .ok (.iconst 4, 1) := by decide +kernel
theorem dX6_take_46 : decode cX6_take 46 = .ok (.aload_n 2, 1) := by decide +kernel
theorem dX6_take_47 : decode cX6_take 47 = .ok (.aastore, 1) := by decide +kernel
theorem dX6_take_48 : decode cX6_take 48 = .ok (.aload_n 0, 1) := by decide +kernel
theorem dX6_take_49 : decode cX6_take 49 = .ok (.dup, 1) := by decide +kernel
theorem dX6_take_50 : decode cX6_take 50 = .ok (.getfield 22, 3) := by decide +kernel
theorem dX6_take_53 : decode cX6_take 53 = .ok (.iconst 1, 1) := by decide +kernel
theorem dX6_take_54 : decode cX6_take 54 = .ok (.isub, 1) := by decide +kernel
theorem dX6_take_55 : decode cX6_take 55 = .ok (.putfield 22, 3) := by decide +kernel
theorem dX6_take_58 : decode cX6_take 58 = .ok (.aload_n 2, 1) := by decide +kernel
theorem dX6_take_59 : decode cX6_take 59 = .ok (.areturn, 1) := by decide +kernel
abbrev rm_X6_take : Room := { frames := 3, cells := 0, slots := 0, locals := 64 }
def P_X6_take (i1 : Int32) (h : HP) (Q : Nat → HP → Prop) : Prop := P_X6_at i1 h (fun (v_2 : Nat) (h_2 : HP) => (Ty gC v_2 2 0) ∧ (P_X6_has i1 h_2 (fun (v_8 : Int32) (h_8 : HP) => ((v_8 = 0) → Q v_2 h_8) ∧ ((¬ v_8 = 0) → (Lp2 (fun X_16 (i3_16 : Int32) (h_16 : HP) => ((4 ≤ i3_16) → ((vp_in 4 5) ∧ (Q v_2 (si (sr h_16 ((4 : Int32).toNatClampNeg) v_2) 5 2 (((sr h_16 ((4 : Int32).toNatClampNeg) v_2).1 5 2) - 1))))) ∧ ((¬ 4 ≤ i3_16) → ((vp_in (i3_16 + 1) 5) ∧ (Ty gC (h_16.2.1 (i3_16 + 1).toNatClampNeg) 2 0) ∧ ((vp_in i3_16 5) ∧ (X_16 (i3_16 + 1) (sr h_16 i3_16.toNatClampNeg (h_16.2.1 (i3_16 + 1).toNatClampNeg))))))) i1 h_8)))))
set_option maxHeartbeats 4000000 in
theorem t_X6_take {i1 : Int32} {h : HP} {Q : Nat → HP → Prop}  (hp : P_X6_take i1 h Q) : MT yX6_take cX6_take 4 (some (.object "BoundFrames$Letter")) rm_X6_take [.ref 5, .int i1] gC SH (emb h) (pR Q) := by
  refine MT.of (by decide +kernel) (Nat.le_of_ble_eq_true rfl) (fun C hC hE => ?_)
  show SW C gC 0 [(0, .ref 5), (1, .int i1)] [] h
  unfold P_X6_take at hp
  refine x_aload_n hC dX6_take_0 (lm 0 rfl) ?_
  refine x_iload_n hC dX6_take_1 (lm 1 rfl) ?_
  refine s_callVr (avs := [.int i1]) (st := []) hC dX6_take_2 ml_6_43 mi_X6_at ty_5 rfl (t_X6_at  hp) (Nat.le_of_ble_eq_true rfl) ⟨rfl, rfl⟩ ⟨Nat.le_of_ble_eq_true rfl, Nat.le_of_ble_eq_true rfl⟩ (fun v_2 h_2 hp => ?_)
  obtain ⟨ht_2, hp⟩ := hp
  refine x_astore_n (lv' := [(2, .ref v_2), (0, .ref 5), (1, .int i1)]) hC dX6_take_5 (by decide) rfl ?_
  refine x_aload_n hC dX6_take_6 (lm 1 rfl) ?_
  refine x_iload_n hC dX6_take_7 (lm 2 rfl) ?_
  refine s_callVi (avs := [.int i1]) (st := []) hC dX6_take_8 ml_6_30 mi_X6_has ty_5 rfl (t_X6_has  hp) (Nat.le_of_ble_eq_true rfl) ⟨rfl, rfl⟩ ⟨Nat.le_of_ble_eq_true rfl, Nat.le_of_ble_eq_true rfl⟩ (fun v_8 h_8 hp => ?_)
  refine x_if_eq (tgt := 58) hC dX6_take_11 (by decide) (fun hc => ?_) (fun hc => ?_)
  · have hp := hp.1 hc
    refine x_aload_n hC dX6_take_58 (lm 0 rfl) ?_
    exact x_aret hC hE dX6_take_59 ⟨_, _, rfl, rfl, hp⟩
  · have hp := hp.2 hc
    refine x_iload_n hC dX6_take_14 (lm 2 rfl) ?_
    refine x_istore_n (lv' := [(3, .int i1), (2, .ref v_2), (0, .ref 5), (1, .int i1)]) hC dX6_take_15 (by decide) rfl ?_
    refine x_subk (lv' := [(0, .ref 5), (2, .ref v_2), (3, .int i1)]) [2, 1, 0] rfl ?_
    refine hp (fun i3_16 h_16 => SW C gC 16 [(0, .ref 5), (2, .ref v_2), (3, .int i3_16)] [] h_16) (fun i3_16 h_16 hp => ?_)
    refine x_iload_n hC dX6_take_16 (lm 2 rfl) ?_
    refine x_iconst hC dX6_take_17 ic_4 ?_
    refine x_icmp_ge (tgt := 41) hC dX6_take_18 (by decide) (fun hc => ?_) (fun hc => ?_)
    · have hp := hp.1 hc
      refine x_aload_n hC dX6_take_41 (lm 0 rfl) ?_
      refine s_getR (r := 6) hC dX6_take_42 fk_6_13 ty_5 (fr_6_1 ty_5).1 ?_
      refine x_iconst hC dX6_take_45 ic_4 ?_
      refine x_aload_n hC dX6_take_46 (lm 1 rfl) ?_
      obtain ⟨ho, hp⟩ := hp
      refine s_aastL hC dX6_take_47 ty_6 ht_2 ho ?_
      refine x_aload_n hC dX6_take_48 (lm 0 rfl) ?_
      refine x_dup hC dX6_take_49 rfl ?_
      refine s_getI hC dX6_take_50 fk_6_22 ty_5 ?_
      refine x_iconst hC dX6_take_53 ic_1 ?_
      refine x_isub hC dX6_take_54 ?_
      refine s_putI hC dX6_take_55 fk_6_22 rfl rfl ty_5 ?_
      refine x_aload_n hC dX6_take_58 (lm 1 rfl) ?_
      exact x_aret hC hE dX6_take_59 ⟨_, _, rfl, rfl, hp⟩
    · have hp := hp.2 hc
      refine x_aload_n hC dX6_take_21 (lm 0 rfl) ?_
      refine s_getR (r := 6) hC dX6_take_22 fk_6_13 ty_5 (fr_6_1 ty_5).1 ?_
      refine x_iload_n hC dX6_take_25 (lm 2 rfl) ?_
      refine x_aload_n hC dX6_take_26 (lm 0 rfl) ?_
      refine s_getR (r := 6) hC dX6_take_27 fk_6_13 ty_5 (fr_6_1 ty_5).1 ?_
      refine x_iload_n hC dX6_take_30 (lm 2 rfl) ?_
      refine x_iconst hC dX6_take_31 ic_1 ?_
      refine x_iadd hC dX6_take_32 ?_
      obtain ⟨ho, ho2_33, hp⟩ := hp
      refine s_aaldL hC dX6_take_33 ty_6 ho ?_
      obtain ⟨ho, hp⟩ := hp
      refine s_aastL hC dX6_take_34 ty_6 ho2_33 ho ?_
      refine x_iinc (u := i3_16 + 1) (lv' := [(3, .int (i3_16 + 1)), (0, .ref 5), (2, .ref v_2)]) hC dX6_take_35 (lm 2 rfl) (congrArg _ ic_1) (by decide) rfl ?_
      refine x_goto (tgt := 16) hC dX6_take_38 (by decide) ?_
      exact x_subk [1, 2, 0] rfl hp
theorem dX6_countOf_0 : decode cX6_countOf 0 = .ok (.iconst 0, 1) := by decide +kernel
theorem dX6_countOf_1 : decode cX6_countOf 1 = .ok (.istore_n 2, 1) := by decide +kernel
theorem dX6_countOf_2 : decode cX6_countOf 2 = .ok (.iconst 0, 1) := by decide +kernel
theorem dX6_countOf_3 : decode cX6_countOf 3 = .ok (.istore_n 3, 1) := by decide +kernel
theorem dX6_countOf_4 : decode cX6_countOf 4 = .ok (.iload_n 3, 1) := by decide +kernel
theorem dX6_countOf_5 : decode cX6_countOf 5 = .ok (.aload_n 0, 1) := by decide +kernel
theorem dX6_countOf_6 : decode cX6_countOf 6 = .ok (.getfield 22, 3) := by decide +kernel
theorem dX6_countOf_9 : decode cX6_countOf 9 = .ok (.if_icmp .ge 33, 3) := by decide +kernel
theorem dX6_countOf_12 : decode cX6_countOf 12 = .ok (.iload_n 2, 1) := by decide +kernel
theorem dX6_countOf_13 : decode cX6_countOf 13 = .ok (.aload_n 0, 1) := by decide +kernel
theorem dX6_countOf_14 : decode cX6_countOf 14 = .ok (.getfield 13, 3) := by decide +kernel
theorem dX6_countOf_17 : decode cX6_countOf 17 = .ok (.iload_n 3, 1) := by decide +kernel
theorem dX6_countOf_18 : decode cX6_countOf 18 = .ok (.aaload, 1) := by decide +kernel
theorem dX6_countOf_19 : decode cX6_countOf 19 = .ok (.getfield 47, 3) := by decide +kernel
theorem dX6_countOf_22 : decode cX6_countOf 22 = .ok (.iload_n 1, 1) := by decide +kernel
theorem dX6_countOf_23 : decode cX6_countOf 23 = .ok (.if_icmp .ne 7, 3) := by decide +kernel
theorem dX6_countOf_26 : decode cX6_countOf 26 = .ok (.iconst 1, 1) := by decide +kernel
theorem dX6_countOf_27 : decode cX6_countOf 27 = .ok (.goto 4, 3) := by decide +kernel
theorem dX6_countOf_30 : decode cX6_countOf 30 = .ok (.iconst 0, 1) := by decide +kernel
theorem dX6_countOf_31 : decode cX6_countOf 31 = .ok (.invokestatic 50, 3) := by decide +kernel
theorem dX6_countOf_34 : decode cX6_countOf 34 = .ok (.iadd, 1) := by decide +kernel
theorem dX6_countOf_35 : decode cX6_countOf 35 = .ok (.istore_n 2, 1) := by decide +kernel
theorem dX6_countOf_36 : decode cX6_countOf 36 = .ok (.iinc 3 1, 3) := by decide +kernel
theorem dX6_countOf_39 : decode cX6_countOf 39 = .ok (.goto (-35), 3) := by decide +kernel
theorem dX6_countOf_42 : decode cX6_countOf 42 = .ok (.iload_n 2, 1) := by decide +kernel
theorem dX6_countOf_43 : decode cX6_countOf 43 = .ok (.ireturn, 1) := by decide +kernel
abbrev rm_X6_countOf : Room := { frames := 1, cells := 0, slots := 0, locals := 20 }
def P_X6_countOf (i1 : Int32) (h : HP) (Q : Int32 → HP → Prop) : Prop := Lp3 (fun X_4 (i2_4 : Int32) (i3_4 : Int32) (h_4 : HP) => (((h_4.1 5 2) ≤ i3_4) → Q i2_4 h_4) ∧ ((¬ (h_4.1 5 2) ≤ i3_4) → ((vp_in i3_4 5) ∧ (Ty gC (h_4.2.1 i3_4.toNatClampNeg) 2 0) ∧ (((¬ (h_4.1 (h_4.2.1 i3_4.toNatClampNeg) 0) = i1) → (P_X8_flag 0 h_4 (fun (v_31 : Int32) (h_31 : HP) => X_4 (i2_4 + v_31) (i3_4 + 1) h_31))) ∧ (((h_4.1 (h_4.2.1 i3_4.toNatClampNeg) 0) = i1) → (P_X8_flag 1 h_4 (fun (v_31 : Int32) (h_31 : HP) => X_4 (i2_4 + v_31) (i3_4 + 1) h_31))))))) 0 0 h
set_option maxHeartbeats 4000000 in
theorem t_X6_countOf {i1 : Int32} {h : HP} {Q : Int32 → HP → Prop}  (hp : P_X6_countOf i1 h Q) : MT yX6_countOf cX6_countOf 4 (some .int) rm_X6_countOf [.ref 5, .int i1] gC SH (emb h) (pI Q) := by
  refine MT.of (by decide +kernel) (Nat.le_of_ble_eq_true rfl) (fun C hC hE => ?_)
  show SW C gC 0 [(0, .ref 5), (1, .int i1)] [] h
  unfold P_X6_countOf at hp
  refine x_iconst hC dX6_countOf_0 ic_0 ?_
  refine x_istore_n (lv' := [(2, .int 0), (0, .ref 5), (1, .int i1)]) hC dX6_countOf_1 (by decide) rfl ?_
  refine x_iconst hC dX6_countOf_2 ic_0 ?_
  refine x_istore_n (lv' := [(3, .int 0), (2, .int 0), (0, .ref 5), (1, .int i1)]) hC dX6_countOf_3 (by decide) rfl ?_
  refine x_subk (lv' := [(0, .ref 5), (1, .int i1), (2, .int 0), (3, .int 0)]) [2, 3, 1, 0] rfl ?_
  refine hp (fun i2_4 i3_4 h_4 => SW C gC 4 [(0, .ref 5), (1, .int i1), (2, .int i2_4), (3, .int i3_4)] [] h_4) (fun i2_4 i3_4 h_4 hp => ?_)
  refine x_iload_n hC dX6_countOf_4 (lm 3 rfl) ?_
  refine x_aload_n hC dX6_countOf_5 (lm 0 rfl) ?_
  refine s_getI hC dX6_countOf_6 fk_6_22 ty_5 ?_
  refine x_icmp_ge (tgt := 42) hC dX6_countOf_9 (by decide) (fun hc => ?_) (fun hc => ?_)
  · have hp := hp.1 hc
    refine x_iload_n hC dX6_countOf_42 (lm 2 rfl) ?_
    exact x_iret hC hE dX6_countOf_43 ⟨_, _, rfl, rfl, hp⟩
  · have hp := hp.2 hc
    refine x_iload_n hC dX6_countOf_12 (lm 2 rfl) ?_
    refine x_aload_n hC dX6_countOf_13 (lm 0 rfl) ?_
    refine s_getR (r := 6) hC dX6_countOf_14 fk_6_13 ty_5 (fr_6_1 ty_5).1 ?_
    refine x_iload_n hC dX6_countOf_17 (lm 3 rfl) ?_
    obtain ⟨ho, ho2_18, hp⟩ := hp
    refine s_aaldL hC dX6_countOf_18 ty_6 ho ?_
    refine s_getI hC dX6_countOf_19 fk_6_47 ho2_18 ?_
    refine x_iload_n hC dX6_countOf_22 (lm 1 rfl) ?_
    refine x_icmp_ne (tgt := 30) hC dX6_countOf_23 (by decide) (fun hc => ?_) (fun hc => ?_)
    · have hp := hp.1 hc
      refine x_iconst hC dX6_countOf_30 ic_0 ?_
      refine s_callNi (avs := [.int 0]) (st := [.int i2_4]) hC dX6_countOf_31 nl_6_50 ms_X8_flag rfl (t_X8_flag  hp) (Nat.le_of_ble_eq_true rfl) ⟨rfl, rfl⟩ ⟨Nat.le_of_ble_eq_true rfl, Nat.le_of_ble_eq_true rfl⟩ (fun v_31 h_31 hp => ?_)
      refine x_iadd hC dX6_countOf_34 ?_
      refine x_istore_n (lv' := [(2, .int (i2_4 + v_31)), (0, .ref 5), (1, .int i1), (3, .int i3_4)]) hC dX6_countOf_35 (by decide) rfl ?_
      refine x_iinc (u := i3_4 + 1) (lv' := [(3, .int (i3_4 + 1)), (2, .int (i2_4 + v_31)), (0, .ref 5), (1, .int i1)]) hC dX6_countOf_36 (lm 3 rfl) (congrArg _ ic_1) (by decide) rfl ?_
      refine x_goto (tgt := 4) hC dX6_countOf_39 (by decide) ?_
      exact x_subk [2, 3, 1, 0] rfl hp
    · have hp := hp.2 hc
      refine x_iconst hC dX6_countOf_26 ic_1 ?_
      refine x_goto (tgt := 31) hC dX6_countOf_27 (by decide) ?_
      refine s_callNi (avs := [.int 1]) (st := [.int i2_4]) hC dX6_countOf_31 nl_6_50 ms_X8_flag rfl (t_X8_flag  hp) (Nat.le_of_ble_eq_true rfl) ⟨rfl, rfl⟩ ⟨Nat.le_of_ble_eq_true rfl, Nat.le_of_ble_eq_true rfl⟩ (fun v_31 h_31 hp => ?_)
      refine x_iadd hC dX6_countOf_34 ?_
      refine x_istore_n (lv' := [(2, .int (i2_4 + v_31)), (0, .ref 5), (1, .int i1), (3, .int i3_4)]) hC dX6_countOf_35 (by decide) rfl ?_
      refine x_iinc (u := i3_4 + 1) (lv' := [(3, .int (i3_4 + 1)), (2, .int (i2_4 + v_31)), (0, .ref 5), (1, .int i1)]) hC dX6_countOf_36 (lm 3 rfl) (congrArg _ ic_1) (by decide) rfl ?_
      refine x_goto (tgt := 4) hC dX6_countOf_39 (by decide) ?_
      exact x_subk [2, 3, 1, 0] rfl hp
theorem dX6_loseAllOf_0 : decode cX6_loseAllOf 0 = .ok (.iconst 0, 1) := by decide +kernel
theorem dX6_loseAllOf_1 : decode cX6_loseAllOf 1 = .ok (.istore_n 2, 1) := by decide +kernel
theorem dX6_loseAllOf_2 : decode cX6_loseAllOf 2 = .ok (.aload_n 0, 1) := by decide +kernel
theorem dX6_loseAllOf_3 : decode cX6_loseAllOf 3 = .ok (.getfield 22, 3) := by decide +kernel
theorem dX6_loseAllOf_6 : decode cX6_loseAllOf 6 = .ok (.iconst 1, 1) := by decide +kernel
theorem dX6_loseAllOf_7 : decode cX6_loseAllOf 7 = .ok (.isub, 1) := by decide +kernel
theorem dX6_loseAllOf_8 : decode cX6_loseAllOf 8 = .ok (.istore_n 3, 1) := by decide +kernel
theorem dX6_loseAllOf_9 : decode cX6_loseAllOf 9 = .ok (.iload_n 3, 1) := by decide +kernel
theorem dX6_loseAllOf_10 : decode cX6_loseAllOf 10 = .ok (.ifCond .lt 31, 3) := by decide +kernel
theorem dX6_loseAllOf_13 : decode cX6_loseAllOf 13 = .ok (.aload_n 0, 1) := by decide +kernel
theorem dX6_loseAllOf_14 : decode cX6_loseAllOf 14 = .ok (.getfield 13, 3) := by decide +kernel
theorem dX6_loseAllOf_17 : decode cX6_loseAllOf 17 = .ok (.iload_n 3, 1) := by decide +kernel
theorem dX6_loseAllOf_18 : decode cX6_loseAllOf 18 = .ok (.aaload, 1) := by decide +kernel
theorem dX6_loseAllOf_19 : decode cX6_loseAllOf 19 = .ok (.getfield 47, 3) := by decide +kernel
theorem dX6_loseAllOf_22 : decode cX6_loseAllOf 22 = .ok (.iload_n 1, 1) := by decide +kernel
theorem dX6_loseAllOf_23 : decode cX6_loseAllOf 23 = .ok (.if_icmp .ne 12, 3) := by decide +kernel
theorem dX6_loseAllOf_26 : decode cX6_loseAllOf 26 = .ok (.aload_n 0, 1) := by decide +kernel
theorem dX6_loseAllOf_27 : decode cX6_loseAllOf 27 = .ok (.iload_n 3, 1) := by decide +kernel
theorem dX6_loseAllOf_28 : decode cX6_loseAllOf 28 = .ok (.invokevirtual 54, 3) := by decide +kernel
theorem dX6_loseAllOf_31 : decode cX6_loseAllOf 31 = .ok (.pop, 1) := by decide +kernel
theorem dX6_loseAllOf_32 : decode cX6_loseAllOf 32 = .ok (.iinc 2 1, 3) := by decide +kernel
theorem dX6_loseAllOf_35 : decode cX6_loseAllOf 35 = .ok (.iinc 3 (-1), 3) := by decide +kernel
theorem dX6_loseAllOf_38 : decode cX6_loseAllOf 38 = .ok (.goto (-29), 3) := by decide +kernel
theorem dX6_loseAllOf_41 : decode cX6_loseAllOf 41 = .ok (.aload_n 0, 1) := by decide +kernel
theorem dX6_loseAllOf_42 : decode cX6_loseAllOf 42 = .ok (.getfield 17, 3) := by decide +kernel
theorem dX6_loseAllOf_45 : decode cX6_loseAllOf 45 = .ok (.dup, 1) := by decide +kernel
theorem dX6_loseAllOf_46 : decode cX6_loseAllOf 46 = .ok (.getfield 57, 3) := by decide +kernel
theorem dX6_loseAllOf_49 : decode cX6_loseAllOf 49 = .ok (.iload_n 2, 1) := by decide +kernel
theorem dX6_loseAllOf_50 : decode cX6_loseAllOf 50 = .ok (.iadd, 1) := by decide +kernel
theorem dX6_loseAllOf_51 : decode cX6_loseAllOf 51 = .ok (.putfield 57, 3) := by decide +kernel
theorem dX6_loseAllOf_54 : decode cX6_loseAllOf 54 = .ok (.iload_n 2, 1) := by decide +kernel
theorem dX6_loseAllOf_55 : decode cX6_loseAllOf 55 = .ok (.ireturn, 1) := by decide +kernel
abbrev rm_X6_loseAllOf : Room := { frames := 4, cells := 0, slots := 0, locals := 87 }
def P_X6_loseAllOf (i1 : Int32) (h : HP) (Q : Int32 → HP → Prop) : Prop := Lp3 (fun X_9 (i2_9 : Int32) (i3_9 : Int32) (h_9 : HP) => ((i3_9 < 0) → (Q i2_9 (si h_9 4 1 ((h_9.1 4 1) + i2_9)))) ∧ ((¬ i3_9 < 0) → ((vp_in i3_9 5) ∧ (Ty gC (h_9.2.1 i3_9.toNatClampNeg) 2 0) ∧ (((¬ (h_9.1 (h_9.2.1 i3_9.toNatClampNeg) 0) = i1) → (X_9 i2_9 (i3_9 + (-1)) h_9)) ∧ (((h_9.1 (h_9.2.1 i3_9.toNatClampNeg) 0) = i1) → (P_X6_take i3_9 h_9 (fun (v_28 : Nat) (h_28 : HP) => (Ty gC v_28 2 0) ∧ (X_9 (i2_9 + 1) (i3_9 + (-1)) h_28)))))))) 0 ((h.1 5 2) - 1) h
set_option maxHeartbeats 4000000 in
theorem t_X6_loseAllOf {i1 : Int32} {h : HP} {Q : Int32 → HP → Prop}  (hp : P_X6_loseAllOf i1 h Q) : MT yX6_loseAllOf cX6_loseAllOf 4 (some .int) rm_X6_loseAllOf [.ref 5, .int i1] gC SH (emb h) (pI Q) := by
  refine MT.of (by decide +kernel) (Nat.le_of_ble_eq_true rfl) (fun C hC hE => ?_)
  show SW C gC 0 [(0, .ref 5), (1, .int i1)] [] h
  unfold P_X6_loseAllOf at hp
  refine x_iconst hC dX6_loseAllOf_0 ic_0 ?_
  refine x_istore_n (lv' := [(2, .int 0), (0, .ref 5), (1, .int i1)]) hC dX6_loseAllOf_1 (by decide) rfl ?_
  refine x_aload_n hC dX6_loseAllOf_2 (lm 1 rfl) ?_
  refine s_getI hC dX6_loseAllOf_3 fk_6_22 ty_5 ?_
  refine x_iconst hC dX6_loseAllOf_6 ic_1 ?_
  refine x_isub hC dX6_loseAllOf_7 ?_
  refine x_istore_n (lv' := [(3, .int ((h.1 5 2) - 1)), (2, .int 0), (0, .ref 5), (1, .int i1)]) hC dX6_loseAllOf_8 (by decide) rfl ?_
  refine x_subk (lv' := [(0, .ref 5), (1, .int i1), (2, .int 0), (3, .int ((h.1 5 2) - 1))]) [2, 3, 1, 0] rfl ?_
  refine hp (fun i2_9 i3_9 h_9 => SW C gC 9 [(0, .ref 5), (1, .int i1), (2, .int i2_9), (3, .int i3_9)] [] h_9) (fun i2_9 i3_9 h_9 hp => ?_)
  refine x_iload_n hC dX6_loseAllOf_9 (lm 3 rfl) ?_
  refine x_if_lt (tgt := 41) hC dX6_loseAllOf_10 (by decide) (fun hc => ?_) (fun hc => ?_)
  · have hp := hp.1 hc
    refine x_aload_n hC dX6_loseAllOf_41 (lm 0 rfl) ?_
    refine s_getR (r := 4) hC dX6_loseAllOf_42 fk_6_17 ty_5 (fr_6_0 ty_5).1 ?_
    refine x_dup hC dX6_loseAllOf_45 rfl ?_
    refine s_getI hC dX6_loseAllOf_46 fk_6_57 ty_4 ?_
    refine x_iload_n hC dX6_loseAllOf_49 (lm 2 rfl) ?_
    refine x_iadd hC dX6_loseAllOf_50 ?_
    refine s_putI hC dX6_loseAllOf_51 fk_6_57 rfl rfl ty_4 ?_
    refine x_iload_n hC dX6_loseAllOf_54 (lm 2 rfl) ?_
    exact x_iret hC hE dX6_loseAllOf_55 ⟨_, _, rfl, rfl, hp⟩
  · have hp := hp.2 hc
    refine x_aload_n hC dX6_loseAllOf_13 (lm 0 rfl) ?_
    refine s_getR (r := 6) hC dX6_loseAllOf_14 fk_6_13 ty_5 (fr_6_1 ty_5).1 ?_
    refine x_iload_n hC dX6_loseAllOf_17 (lm 3 rfl) ?_
    obtain ⟨ho, ho2_18, hp⟩ := hp
    refine s_aaldL hC dX6_loseAllOf_18 ty_6 ho ?_
    refine s_getI hC dX6_loseAllOf_19 fk_6_47 ho2_18 ?_
    refine x_iload_n hC dX6_loseAllOf_22 (lm 1 rfl) ?_
    refine x_icmp_ne (tgt := 35) hC dX6_loseAllOf_23 (by decide) (fun hc => ?_) (fun hc => ?_)
    · have hp := hp.1 hc
      refine x_iinc (u := i3_9 + (-1)) (lv' := [(3, .int (i3_9 + (-1))), (0, .ref 5), (1, .int i1), (2, .int i2_9)]) hC dX6_loseAllOf_35 (lm 3 rfl) (congrArg _ ic_m1) (by decide) rfl ?_
      refine x_goto (tgt := 9) hC dX6_loseAllOf_38 (by decide) ?_
      exact x_subk [1, 2, 3, 0] rfl hp
    · have hp := hp.2 hc
      refine x_aload_n hC dX6_loseAllOf_26 (lm 0 rfl) ?_
      refine x_iload_n hC dX6_loseAllOf_27 (lm 3 rfl) ?_
      refine s_callVr (avs := [.int i3_9]) (st := []) hC dX6_loseAllOf_28 ml_6_54 mi_X6_take ty_5 rfl (t_X6_take  hp) (Nat.le_of_ble_eq_true rfl) ⟨rfl, rfl⟩ ⟨Nat.le_of_ble_eq_true rfl, Nat.le_of_ble_eq_true rfl⟩ (fun v_28 h_28 hp => ?_)
      obtain ⟨ht_28, hp⟩ := hp
      refine x_pop hC dX6_loseAllOf_31 rfl ?_
      refine x_iinc (u := i2_9 + 1) (lv' := [(2, .int (i2_9 + 1)), (0, .ref 5), (1, .int i1), (3, .int i3_9)]) hC dX6_loseAllOf_32 (lm 2 rfl) (congrArg _ ic_1) (by decide) rfl ?_
      refine x_iinc (u := i3_9 + (-1)) (lv' := [(3, .int (i3_9 + (-1))), (2, .int (i2_9 + 1)), (0, .ref 5), (1, .int i1)]) hC dX6_loseAllOf_35 (lm 3 rfl) (congrArg _ ic_m1) (by decide) rfl ?_
      refine x_goto (tgt := 9) hC dX6_loseAllOf_38 (by decide) ?_
      exact x_subk [2, 3, 1, 0] rfl hp
