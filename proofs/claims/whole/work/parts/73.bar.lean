def ltA (c mk bi : Nat) : LT := ((4, c, 0), (nI mk, nI bi, -1, -1, -1), fun _ => (0, 0, 0))
theorem ltA_ok {c mk bi : Nat} (hc4 : c < 4) (h1 : mk < 64) (h2 : bi < 2 ^ 30) : LtOk (ltA c mk bi) := ⟨by simp [ltA], hc4, by simp [ltA], fun j hj => absurd hj (by simp [ltA]), fun z => absurd z (by simp [ltA]), fun z => absurd z (by simp [ltA]), fun z => absurd z (by simp [ltA]), fun _ => ⟨mk, bi, rfl, h1, rfl, h2⟩⟩
theorem k_ansr {c k mk bi : Nat} {X : Nat → LT} {h : HP} {Q : HP → Prop} (hc4 : c < 4) (hx : CLs h k X) (hk : k < 4) (h2 : h.1 (41 + 11 * c) 2 = 1) (h7 : h.1 (41 + 11 * c) 7 = nI mk) (h8 : h.1 (41 + 11 * c) 8 = nI bi) (hQ : ∀ h' : HP, h'.2 = h.2 → h'.1 5 2 = nI (k + 1) → h'.1 4 0 = h.1 4 0 + 1 → CLt h'.1 (h.2.1 k) (ltA c mk bi) → Fr (sSd (h.2.1 k)) h.1 h'.1 → Q h') : P_X8_answer (nI c) h Q := by
  have hr := lc_ge hx (show k < 5 by omega)
  have hcl : (nI c).toNatClampNeg = c := n_cl (by omega)
  unfold P_X8_answer
  rw [hcl]
  refine ⟨n_in hc4 (by omega), bc_f (by rw [h2]; decide) ?_⟩
  refine k_send hx hk fun h' e2 s5 s0 rr f => ⟨ty_L (hx.2.2.1.1 k (by omega)), ?_⟩
  obtain ⟨r0, r1, r2, r3, r4, r5, r6, r7⟩ := rr
  have x7 : h'.1 (41 + 11 * c) 7 = nI mk := (f _ _ (by unfold sSd; omega)).trans h7
  have x8 : (si h' (h.2.1 k) 5 (nI mk)).1 (41 + 11 * c) 8 = nI bi := (si_o (by omega) _).trans ((f _ _ (by unfold sSd; omega)).trans h8)
  rw [x7, x8]
  have C0 : ∀ a b, ¬ (a = h.2.1 k ∧ (b = 5 ∨ b = 6)) → (si (si h' (h.2.1 k) 5 (nI mk)) (h.2.1 k) 6 (nI bi)).1 a b = h'.1 a b := fun a b z => by
    rw [si_1, if_neg (by omega), si_1, if_neg (by omega)]
  refine hQ _ (by rw [si_2, si_2]; exact e2) ((C0 _ _ (by omega)).trans s5) ((C0 _ _ (by omega)).trans s0) ⟨(C0 _ _ (by omega)).trans r1, ?_, ?_, (C0 _ _ (by omega)).trans r3, fun z => absurd z (by simp [ltA]), (C0 _ _ (by omega)).trans r0, (C0 _ _ (by omega)).trans r7, fun j hj => absurd hj (by simp [ltA])⟩ fun a b z => (C0 a b (fun y => z (by unfold sSd; omega))).trans (f a b z)
  · rw [si_p (by decide), si_s]; rfl
  · rw [si_s]; rfl
theorem k_ans0 {c : Nat} {h : HP} {Q : HP → Prop} (hc4 : c < 4) (h2 : h.1 (41 + 11 * c) 2 = 0) (hQ : Q h) : P_X8_answer (nI c) h Q := by
  unfold P_X8_answer
  rw [n_cl (by omega)]
  exact ⟨n_in hc4 (by omega), bc_t h2 hQ⟩
theorem RowM.ml {g : Nat → Nat → Int32} {k c mk bi : Nat} (h : RowM g k 4 (nI c) (nI mk) (nI bi) (-1) 0 0 0) : MLt g k (ltA c mk bi) := by
  obtain ⟨t1, t2, t3, t4, t5, t6, t7, t8⟩ := h
  exact ⟨t1, t2, t3, t4, t5, fun z => absurd z (by simp [ltA]), t8, fun j hj => absurd hj (by simp [ltA])⟩
theorem far_tal {hc hm h2 g2 : HP} {y : FYS} {c : Nat} (hT : RTal hc hm) (cf : CFar h2.1 (41 + 11 * c) y) (mf : MFar g2.1 c y) (C : ∀ j, j < 7 → j ≠ 4 → j ≠ 5 → h2.1 4 j = hc.1 4 j) (M : ∀ j, j < 7 → j ≠ 4 → j ≠ 5 → g2.1 80 j = hm.1 80 j) : ∀ j, j < 7 → h2.1 4 j = g2.1 80 j := by
  intro j hj
  by_cases z4 : j = 4
  · subst z4; rw [cf.2.2.2.2.2.2.2.2.2.2.2.2.2.2.2, mf.2.2.2.2.2.2.2.2.2.2.2.2.2.2.2]
  · by_cases z5 : j = 5
    · subst z5; rw [cf.2.2.2.2.2.2.2.1, mf.2.2.2.2.2.2.2.1]
    · rw [C j hj z4 z5, M j hj z4 z5]; exact hT.1 j hj
theorem d_bar {hc hm h1 : HP} {k p : Nat} {X : Nat → LT} {R : HP → Prop} (D : DCx hc hm h1 k p X) (hs : (X p).1.1 = 3) (hR : ∀ h' : HP, P_X9_comesOther (nI p) hm (fun hm' => (1 : Int32) = 1 ∧ InvW h' hm') → R h') : P_X8_arrives (hc.2.1 p) h1 R := by
  obtain ⟨hI, hp, l1, l2, l3, a1, L1, -, E1⟩ := D
  have hk := l1.1
  have hr := lc_ge l1 (show p < 5 by omega)
  have cl : CLt h1.1 (hc.2.1 p) (X p) := (l1.2.2.2 p hp).fr fun a b z1 z2 => E1 a b (by omega)
  have hT := hI.2.2.1
  obtain ⟨c, hcx⟩ : ∃ c, (X p).1.2.1 = c := ⟨_, rfl⟩
  have hc4 : c < 4 := by rw [← hcx]; exact (l3.1 p hp).2.1
  have hic : vp_in (nI c) 4 := n_in hc4 (by omega)
  have hcl : (nI c).toNatClampNeg = c := n_cl (by omega)
  obtain ⟨s2, s88⟩ : hm.1 81 c = 2 ∧ hm.1 88 c = 1 := by rw [← hcx]; exact (l3.2.2 p hp).2.1 (by omega) (by omega)
  obtain ⟨nb, n1, n2⟩ := (l3.1 p hp).2.2.2.2.2.2.1 hs
  refine k_arr cl (l3.1 p hp) hs hcx (fun z => absurd z (by decide)) (fun z => absurd z (by decide)) (fun _ => ?_) (fun z => absurd z (by decide)) (fun z => absurd z (by decide))
  rw [cl.2.1, n1]
  rcases hI.2.2.2.2.1 c hc4 with ⟨os, o1, o2, o3, o4⟩ | ⟨y, ok, cf, mf⟩
  · have z1 : h1.1 (41 + 11 * c) 2 = 0 := (E1 _ _ (by omega)).trans o1
    refine bc_t' z1 (k_ans0 hc4 z1 (hR _ ?_))
    refine m_oth l2 l3.1 hp hs hcx fun g1 e1 L2 f1 => ⟨fun z => absurd z (by decide), fun z => absurd z (by decide), fun z => absurd z (by decide), fun _ => ?_, fun z => absurd z (by decide)⟩
    refine ⟨hic, bc_t' (by rw [hcl]; exact (f1 _ _ (by unfold sDr; omega)).trans o2) ⟨rfl, ?_⟩⟩
    refine (rem_inv hI l3 hp a1 hcx L1 L2 (fun a b z => E1 a b (fun y => z (by unfold tC; omega))) (fun a b z => f1 a b (fun y => z (by unfold tM; unfold sDr at y; omega))) (fun j hj => ?_) (Or.inr ⟨fun a b z1 z2 => E1 a b (by omega), fun a b z => f1 a b (by have := iN_lo z; unfold sDr; omega)⟩) (Or.inr ⟨fun a b z1 z2 => E1 a b (by omega), fun a b z => f1 a b (by have := iF_lo z; unfold sDr; omega)⟩)).1
    rw [E1 _ _ (by omega), f1 _ _ (by unfold sDr; omega)]; exact hT.1 j hj
  · have okB := bar_ok (nb := nb) ok
    refine k_bar (by omega) (cf.f0 ok (fun a b z1 z2 => E1 a b (by omega)) (E1 _ _ (by omega)) (E1 _ _ (by omega))) ok n2 fun h2 e2 cf2 f2 => ?_
    have L1' : CLs h2 (k - 1) (rmX p X) := L1.fr (by rw [e2]) (fun a b z1 z2 => f2 _ _ (by unfold sFar; omega)) (f2 _ _ (by unfold sFar; omega))
    refine k_ansr hc4 L1' (by omega) cf2.1 cf2.2.2.2.2.1 cf2.2.2.2.2.2.1 fun h3 e3 s5 s0 cl3 f3 => hR _ ?_
    refine m_oth l2 l3.1 hp hs hcx fun g1 e1 L2 f1 => ⟨fun z => absurd z (by decide), fun z => absurd z (by decide), fun z => absurd z (by decide), fun _ => ?_, fun z => absurd z (by decide)⟩
    rw [n1]
    refine m_bar hc4 (mf.f0 ok (fun a b z => f1 a b (by have := iF_lo z; unfold sDr; omega)) (f1 _ _ (by unfold sDr; omega)) (f1 _ _ (by unfold sDr; omega))) ok n2 fun g2 e4 mf2 f4 => ?_
    unfold P_X9_comesBar_j53
    rw [hcl, mf2.2.2.2.2.1, mf2.2.2.2.2.2.1]
    have L2' : MLs g2.1 (k - 1) (rmX p X) := L2.fr (l3.rm hp).1.1 (f4 _ _ (by unfold sFarM; omega)) (fun y => f4 _ _ (by unfold sFarM; omega)) (fun y => f4 _ _ (by unfold sFarM; omega))
    refine ⟨hic, hic, m_send (k := k - 1) (by omega) L2'.2.1 fun g3 e5 rm g39 g80 f5 => ⟨rfl, ?_⟩⟩
    have C : ∀ a b, a ≠ 5 → ¬ sFar (41 + 11 * c) a b → h2.1 a b = hc.1 a b := fun a b z1 z2 => (f2 a b z2).trans (E1 a b z1)
    have M : ∀ a b, ¬ sDr a b → ¬ sFarM c a b → g2.1 a b = hm.1 a b := fun a b z1 z2 => (f4 a b z2).trans (f1 a b z1)
    obtain ⟨I2, ls2, no2⟩ := rem_inv hI l3 hp a1 hcx L1' L2' (fun a b z => C a b (fun y => z (by unfold tC; omega)) (fun y => z (by unfold tC; unfold sFar at y; omega))) (fun a b z => M a b (fun y => z (by unfold tM; unfold sDr at y; omega)) (fun y => z (by unfold tM iF; unfold sFarM at y; omega))) (far_tal hT cf2 mf2 (fun j _ _ _ => C _ _ (by omega) (by unfold sFar; omega)) (fun j _ _ _ => M _ _ (by unfold sDr; omega) (by unfold sFarM; omega))) (Or.inr ⟨fun a b z1 z2 => C a b (by omega) (by unfold sFar; omega), fun a b z => M a b (by have := iN_lo z; unfold sDr; omega) (by have := iN_lo z; unfold sFarM; omega)⟩) (Or.inl (Or.inr ⟨_, okB, cf2, mf2⟩))
    have b12 : 2 ^ (barA nb y).1.2.1 ≤ 4096 := pw12 okB.2.1.2
    have bb := okB.2.2.2.2.1
    exact snd_inv hc4 I2 L1' L2' ls2 (by omega) ((C _ _ (by omega) (by unfold sFar; omega)).trans a1) no2 rfl (by rw [e3]) s5 s0 f3 cl3 g39 g80 f5 rm.ml (ltA_ok hc4 okB.2.2.2.1 (by omega)) ⟨fun z => absurd z (by simp [ltA]), fun _ _ => ⟨(M _ _ (by unfold sDr; omega) (by unfold sFarM; omega)).trans s2, (M _ _ (by unfold sDr; omega) (by unfold sFarM; omega)).trans s88⟩, fun z => absurd z (by simp [ltA])⟩
