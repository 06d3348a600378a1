/-! deliver: letters that are no bundles: END, YES, ANSWER. -/
theorem CFar.f0 {f f' : Nat → Nat → Int32} {d : Nat} {y : FYS} (ok : YOk y) (h : CFar f (41 + 11 * d) y) (h1 : ∀ a b, 41 + 11 * d ≤ a → a ≤ 44 + 11 * d → f' a b = f a b) (h4 : f' 4 4 = f 4 4) (h5 : f' 4 5 = f 4 5) : CFar f' (41 + 11 * d) y := by
  rcases CA.fr (a := (1, y)) (Or.inl ⟨rfl, ok, h⟩) h1 h4 h5 with ⟨-, -, z⟩ | ⟨z, -, -⟩
  · exact z
  · exact absurd z (by simp)
theorem MFar.f0 {g g' : Nat → Nat → Int32} {d : Nat} {y : FYS} (ok : YOk y) (h : MFar g d y) (h1 : ∀ a b, iF d a b → g' a b = g a b) (h4 : g' 80 4 = g 80 4) (h5 : g' 80 5 = g 80 5) : MFar g' d y := by
  rcases MA.fr (a := (1, y)) (Or.inl ⟨rfl, ok, h⟩) h1 h4 h5 with ⟨-, -, z⟩ | ⟨z, -, -⟩
  · exact z
  · exact absurd z (by simp)
theorem k_arr {r c s : Nat} {x : LT} {h : HP} {Q : HP → Prop} (cl : CLt h.1 r x) (ok : LtOk x) (hs : x.1.1 = s) (hcx : x.1.2.1 = c) (h0 : s = 0 → P_X1_begin (41 + 11 * c) (h.1 r 2) (if 12 < (h.1 r 3) then 12 else (h.1 r 3)) (h.1 r 4) h (fun (h_67 : HP) => P_X6_send (nI c) 1 h_67 (fun (v_76 : Nat) (h_76 : HP) => (Ty gC v_76 2 0) ∧ ((vp_in (nI c) 4) ∧ (Q (si h_76 v_76 3 (h_76.1 (41 + 11 * c) 4))))))) (h1 : s = 1 → P_X3_yes (34 + 11 * c) (h.1 r 3) h Q) (h3 : s = 3 → P_X1_bar (41 + 11 * c) (h.1 r 5) h (fun (h_120 : HP) => P_X8_answer (nI c) h_120 Q)) (h4 : s = 4 → P_X3_answered (34 + 11 * c) (h.1 r 5) (h.1 r 6) h Q) (h5 : s = 2 ∨ s = 5 → P_X1_end (41 + 11 * c) h Q) : P_X8_arrives r h Q := by
  subst hs hcx
  have c0 : h.1 r 0 = nI x.1.2.1 := cl.2.2.2.2.2.1
  have hb := ok.2.1
  have hs := ok.1
  have hic : vp_in (nI x.1.2.1) 4 := n_in hb (by omega)
  unfold P_X8_arrives
  rw [c0, cl.1, n_cl (by omega), n_ti (by omega)]
  exact ⟨fun z => ⟨hic, h0 (by omega)⟩, fun z => ⟨hic, h1 (by omega)⟩, fun z => ⟨hic, h5 (by omega)⟩, fun z => ⟨hic, h3 (by omega)⟩, fun z => ⟨hic, h4 (by omega)⟩, fun z => ⟨hic, h5 (by omega)⟩⟩
theorem m_oth {k p c s : Nat} {X : Nat → LT} {h : HP} {Q : HP → Prop} (l2 : MLs h.1 k X) (ok : ∀ i, i < k → LtOk (X i)) (hp : p < k) (hs : (X p).1.1 = s) (hcx : (X p).1.2.1 = c) (hQ : ∀ g1 : HP, g1.2 = h.2 → MLs g1.1 (k - 1) (rmX p X) → Fr sDr h.1 g1.1 → (s = 0 → P_X9_comesAsk (nI c) (h.1 111 (8 * p + 5)) (X p).2.1.2.2.1 (h.1 111 (8 * p + 6)) g1 Q) ∧ (s = 1 → P_X9_comesYes (nI c) (X p).2.1.2.2.1 g1 Q) ∧ (s = 2 ∨ s = 5 → P_X9_ends (nI c) g1 Q) ∧ (s = 3 → P_X9_comesBar (nI c) (X p).2.1.1 g1 Q) ∧ (s = 4 → P_X9_comesAnswer (nI c) (X p).2.1.1 (X p).2.1.2.1 g1 Q)) : P_X9_comesOther (nI p) h Q := by
  subst hs hcx
  have hk := l2.1
  have hs := (ok p hp).1
  obtain ⟨b1, b2, b3, b4, b5, -⟩ := l2.2.2 p hp
  have q1 : nI (8 * p) + 1 = nI (8 * p + 1) := n_addl _ 1 rfl
  have q2 : nI (8 * p) + 2 = nI (8 * p + 2) := n_addl _ 2 rfl
  have q3 : nI (8 * p) + 3 = nI (8 * p + 3) := n_addl _ 3 rfl
  have q4 : nI (8 * p) + 4 = nI (8 * p + 4) := n_addl _ 4 rfl
  have q5 : nI (8 * p) + 5 = nI (8 * p + 5) := n_addl _ 5 rfl
  have q6 : nI (8 * p) + 6 = nI (8 * p + 6) := n_addl _ 6 rfl
  unfold P_X9_comesOther
  rw [n8, q1, q2, q3, q4, q5, q6, n_cl (by omega), n_cl (by omega), n_cl (by omega), n_cl (by omega), n_cl (by omega), n_cl (by omega), n_cl (by omega), b1, b2, b3, b4, b5, n_ti (by omega)]
  refine ⟨n_in (by omega) (by omega), n_in (by omega) (by omega), n_in (by omega) (by omega), n_in (by omega) (by omega), n_in (by omega) (by omega), n_in (by omega) (by omega), n_in (by omega) (by omega), ?_⟩
  refine m_drop l2 ok hp fun g1 e1 L2 f1 => ?_
  obtain ⟨r0, r1, r5, r3, r4⟩ := hQ g1 e1 L2 f1
  exact ⟨fun z => r0 (by omega), fun z => r1 (by omega), fun z => r5 (by omega), fun z => r3 (by omega), fun z => r4 (by omega), fun z => r5 (by omega)⟩
theorem d_end {hc hm h1 : HP} {k p : Nat} {X : Nat → LT} {R : HP → Prop} (D : DCx hc hm h1 k p X) (hs : (X p).1.1 = 5) (hR : ∀ h' : HP, P_X9_comesOther (nI p) hm (fun hm' => (1 : Int32) = 1 ∧ InvW h' hm') → R h') : P_X8_arrives (hc.2.1 p) h1 R := by
  obtain ⟨hI, hp, l1, l2, l3, a1, L1, -, E1⟩ := D
  have hk := l1.1
  have hr := lc_ge l1 (show p < 5 by omega)
  have cl : CLt h1.1 (hc.2.1 p) (X p) := (l1.2.2.2 p hp).fr fun a b z1 z2 => E1 a b (by omega)
  have hT := hI.2.2.1
  obtain ⟨c, hcx⟩ : ∃ c, (X p).1.2.1 = c := ⟨_, rfl⟩
  have hc4 : c < 4 := by rw [← hcx]; exact (l3.1 p hp).2.1
  refine k_arr cl (l3.1 p hp) hs hcx (fun z => absurd z (by decide)) (fun z => absurd z (by decide)) (fun z => absurd z (by decide)) (fun z => absurd z (by decide)) fun _ => ?_
  rcases hI.2.2.2.2.1 c hc4 with ⟨os, o1, o2, o3, o4⟩ | ⟨y, ok, cf, mf⟩
  · refine k_end0 ((E1 _ _ (by omega)).trans o1) (hR _ ?_)
    refine m_oth l2 l3.1 hp hs hcx fun g1 e1 L2 f1 => ⟨fun z => absurd z (by decide), fun z => absurd z (by decide), fun _ => ?_, fun z => absurd z (by decide), fun z => absurd z (by decide)⟩
    refine m_ends0 hc4 ((f1 _ _ (by unfold sDr; omega)).trans o2) ⟨rfl, ?_⟩
    refine (rem_inv hI l3 hp a1 hcx L1 L2 (fun a b z => E1 a b (fun y => z (by unfold tC; omega))) (fun a b z => f1 a b (fun y => z (by unfold tM; unfold sDr at y; omega))) (fun j hj => ?_) (Or.inr ⟨fun a b z1 z2 => E1 a b (by omega), fun a b z => f1 a b (by have := iN_lo z; unfold sDr; omega)⟩) (Or.inr ⟨fun a b z1 z2 => E1 a b (by omega), fun a b z => f1 a b (by have := iF_lo z; unfold sDr; omega)⟩)).1
    rw [E1 _ _ (by omega), f1 _ _ (by unfold sDr; omega)]; exact hT.1 j hj
  · refine k_end (by omega) (cf.f0 ok (fun a b z1 z2 => E1 a b (by omega)) (E1 _ _ (by omega)) (E1 _ _ (by omega))) ok fun h2 e2 z2 co f2 t5 => hR _ ?_
    refine m_oth l2 l3.1 hp hs hcx fun g1 e1 L2 f1 => ⟨fun z => absurd z (by decide), fun z => absurd z (by decide), fun _ => ?_, fun z => absurd z (by decide), fun z => absurd z (by decide)⟩
    refine m_ends hc4 (mf.f0 ok (fun a b z => f1 a b (by have := iF_lo z; unfold sDr; omega)) (f1 _ _ (by unfold sDr; omega)) (f1 _ _ (by unfold sDr; omega))) ok fun g2 e3 z3 mo f3 t6 => ⟨rfl, ?_⟩
    have C : ∀ a b, a ≠ 5 → ¬ sFar (41 + 11 * c) a b → h2.1 a b = hc.1 a b := fun a b z1 z2 => (f2 a b z2).trans (E1 a b z1)
    have M : ∀ a b, ¬ sDr a b → ¬ sFarM c a b → g2.1 a b = hm.1 a b := fun a b z1 z2 => (f3 a b z2).trans (f1 a b z1)
    refine (rem_inv hI l3 hp a1 hcx (L1.fr (by rw [e2]) (fun a b z1 z2 => f2 _ _ (by unfold sFar; omega)) (f2 _ _ (by unfold sFar; omega))) (L2.fr (l3.rm hp).1.1 (f3 _ _ (by unfold sFarM; omega)) (fun y => f3 _ _ (by unfold sFarM; omega)) (fun y => f3 _ _ (by unfold sFarM; omega))) (fun a b z => C a b (fun y => z (by unfold tC; omega)) (fun y => z (by unfold tC; unfold sFar at y; omega))) (fun a b z => M a b (fun y => z (by unfold tM; unfold sDr at y; omega)) (fun y => z (by unfold tM iF; unfold sFarM at y; omega))) (fun j hj => ?_) (Or.inr ⟨fun a b z1 z2 => C a b (by omega) (by unfold sFar; omega), fun a b z => M a b (by have := iN_lo z; unfold sDr; omega) (by have := iN_lo z; unfold sFarM; omega)⟩) (Or.inl (Or.inl ⟨_, z2, z3, co, mo⟩))).1
    by_cases z4 : j = 4
    · subst z4; rw [co.2.2.2, mo.2.2.2]
    · by_cases z5 : j = 5
      · subst z5; rw [t5, t6, E1 _ _ (by omega), f1 _ _ (by unfold sDr; omega)]; exact hT.1 5 hj
      · rw [C _ _ (by omega) (by unfold sFar; omega), M _ _ (by unfold sDr; omega) (by unfold sFarM; omega)]; exact hT.1 j hj
theorem d_yes {hc hm h1 : HP} {k p : Nat} {X : Nat → LT} {R : HP → Prop} (D : DCx hc hm h1 k p X) (hs : (X p).1.1 = 1) (hR : ∀ h' : HP, P_X9_comesOther (nI p) hm (fun hm' => (1 : Int32) = 1 ∧ InvW h' hm') → R h') : P_X8_arrives (hc.2.1 p) h1 R := by
  obtain ⟨hI, hp, l1, l2, l3, a1, L1, -, E1⟩ := D
  have hk := l1.1
  have hr := lc_ge l1 (show p < 5 by omega)
  have cl : CLt h1.1 (hc.2.1 p) (X p) := (l1.2.2.2 p hp).fr fun a b z1 z2 => E1 a b (by omega)
  have hT := hI.2.2.1
  obtain ⟨c, hcx⟩ : ∃ c, (X p).1.2.1 = c := ⟨_, rfl⟩
  have hc4 : c < 4 := by rw [← hcx]; exact (l3.1 p hp).2.1
  have hic : vp_in (nI c) 4 := n_in hc4 (by omega)
  have hcl : (nI c).toNatClampNeg = c := n_cl (by omega)
  have s81 : hm.1 81 c = 1 := by rw [← hcx]; exact (l3.2.2 p hp).1 (by omega)
  obtain ⟨wd, wd1, wd2⟩ := (l3.1 p hp).2.2.2.2.2.1 hs
  rcases hI.2.2.2.1 c hc4 with ⟨-, -, s3⟩ | ⟨s1, s2, tr, t1, t2, t3, t4⟩ | ⟨-, s3, -⟩
  · rw [s81] at s3; exact absurd s3 (by decide)
  · refine k_arr cl (l3.1 p hp) hs hcx (fun z => absurd z (by decide)) (fun _ => ?_) (fun z => absurd z (by decide)) (fun z => absurd z (by decide)) (fun z => absurd z (by decide))
    refine bc_t' ((E1 _ _ (by omega)).trans s1) (hR _ ?_)
    rw [cl.2.2.2.1, wd1]
    refine m_oth l2 l3.1 hp hs hcx fun g1 e1 L2 f1 => ⟨fun z => absurd z (by decide), fun _ => ?_, fun z => absurd z (by decide), fun z => absurd z (by decide), fun z => absurd z (by decide)⟩
    rw [wd1]
    unfold P_X9_comesYes
    rw [hcl]
    refine ⟨hic, bc_t ((f1 _ _ (by unfold sDr; omega)).trans s81) ⟨hic, hic, hic, hic, hic, hic, hic, hic, hic, rfl, ?_⟩⟩
    have C : ∀ a b, a ≠ 5 → ¬ (a = 34 + 11 * c ∧ (b = 1 ∨ b = 2)) → (si (si h1 (34 + 11 * c) 1 2) (34 + 11 * c) 2 (nI wd)).1 a b = hc.1 a b := fun a b z1 z2 => by
      rw [si_1, if_neg (by omega), si_1, if_neg (by omega)]; exact E1 a b z1
    have M0 : ∀ a b, ¬ (81 ≤ a ∧ a ≤ 92 ∧ a ≠ 84 ∧ b = c) → (si (si (si (si (si (si (si (si (si g1 81 c 2) 83 c (nI wd)) 86 c 0) 87 c 0) 92 c 0) 88 c 0) 89 c 0) 90 c 0) 91 c 0).1 a b = g1.1 a b := fun a b z => by
      rw [si_1, if_neg (by omega), si_1, if_neg (by omega), si_1, if_neg (by omega), si_1, if_neg (by omega), si_1, if_neg (by omega), si_1, if_neg (by omega), si_1, if_neg (by omega), si_1, if_neg (by omega), si_1, if_neg (by omega)]
    have M : ∀ a b, ¬ sDr a b → ¬ (81 ≤ a ∧ a ≤ 92 ∧ a ≠ 84 ∧ b = c) → (si (si (si (si (si (si (si (si (si g1 81 c 2) 83 c (nI wd)) 86 c 0) 87 c 0) 92 c 0) 88 c 0) 89 c 0) 90 c 0) 91 c 0).1 a b = hm.1 a b := fun a b z1 z2 => (M0 a b z2).trans (f1 a b z1)
    have L1' : CLs (si (si h1 (34 + 11 * c) 1 2) (34 + 11 * c) 2 (nI wd)) (k - 1) (rmX p X) := L1.fr rfl (fun a b z1 z2 => by rw [si_o (by omega), si_o (by omega)]) (by rw [si_o (by omega), si_o (by omega)])
    have n4 : ∀ j, 4 ≤ j → j ≤ 10 → (si (si h1 (34 + 11 * c) 1 2) (34 + 11 * c) 2 (nI wd)).1 (34 + 11 * c) j = 0 := fun j z1 z2 => (C _ _ (by omega) (by omega)).trans (t4 j z1 z2)
    refine (rem_inv hI l3 hp a1 hcx L1' (L2.fr (l3.rm hp).1.1 (M0 _ _ (by omega)) (fun y => M0 _ _ (by omega)) (fun y => M0 _ _ (by omega))) (fun a b z => C a b (fun y => z (by unfold tC; omega)) (fun y => z (by unfold tC; omega))) (fun a b z => M a b (fun y => z (by unfold tM; unfold sDr at y; omega)) (fun y => z (by unfold tM iN; omega))) (fun j hj => ?_) (Or.inl (Or.inr (Or.inr ⟨?_, ?_, wd, tr, 0, 0, (fun _ => (0, 0, 0, 0)), 0, (fun _ => (0, 0)), (0, 0, 0, 0, hc.1 4 6), wd2, t1, Nat.zero_le _, si_s .., ?_, ?_, ?_, ⟨by omega, Nat.zero_le _, n4 4 (by omega) (by omega), n4 5 (by omega) (by omega), fun k hk => absurd hk (Nat.not_lt_zero _)⟩, ⟨by omega, Nat.zero_le _, ?_, ?_, fun k hk => absurd hk (Nat.not_lt_zero _)⟩, ⟨by omega, n4 6 (by omega) (by omega), fun i hi => absurd hi (Nat.not_lt_zero _)⟩, ⟨by omega, ?_, fun i hi => absurd hi (Nat.not_lt_zero _)⟩, ⟨n4 8 (by omega) (by omega), n4 9 (by omega) (by omega), n4 10 (by omega) (by omega), n4 7 (by omega) (by omega), C _ _ (by omega) (by omega)⟩, ⟨?_, ?_, ?_, si_s .., ?_⟩, fun k hk => absurd hk (Nat.not_lt_zero _), fun i hi => absurd hi (Nat.not_lt_zero _), ⟨by simp, by simp, by simp⟩, fun _ k hk => absurd hk (Nat.not_lt_zero _)⟩))) (Or.inr ⟨fun a b z1 z2 => C a b (by omega) (by omega), fun a b z => M a b (by have := iF_lo z; unfold sDr; omega) (by have := iF_lo z; omega)⟩)).1
    · rw [C _ _ (by omega) (by omega), M _ _ (by unfold sDr; omega) (by omega)]; exact hT.1 j hj
    · rw [si_p (by decide), si_s]
    · simp [si_1]
    · simp [si_1]
    · rw [C _ _ (by omega) (by omega)]; exact t2
    · rw [M _ _ (by unfold sDr; omega) (by omega)]; exact t3
    · simp [si_1]; rfl
    · simp [si_1]; rfl
    · simp [si_1]; rfl
    · simp [si_1]; rfl
    · simp [si_1]; rfl
    · simp [si_1]; rfl
    · rw [M _ _ (by unfold sDr; omega) (by omega)]; exact (hT.1 6 (by omega)).symm
  · rw [s81] at s3; exact absurd s3 (by decide)
