/-! open. -/
theorem o_open (i i2 i3 i4 i5 : Int32) : OpI (P_X8_open i i2 i3 i4 i5) (P_X9_open i i2 i3 i4 i5) InvW := by
  intro hc hm hI
  rcases air_cases hI with ⟨a1, a2⟩ | ⟨a1, on, a2, a3⟩
  · refine bc_t' a1 ?_
    exact m_isAir0 a2 (bz_f1 ⟨rfl, hI⟩)
  refine bc_f' (by rw [a1]; decide) ?_
  rcases wi_c 0 3 (A := 0) (B := 3) rfl rfl (by omega) (by omega) i with hi | ⟨c, ⟨-, hc3⟩, rfl, hi⟩
  · refine wi_f hi ⟨Or.inl rfl, bz_f1 ?_⟩
    exact m_isAir1 a2 a3 (bz_t1 (m_isAir1 a2 a3 (bz_t2 (wi_fM hi (bz_f2 (bz_f1 ⟨rfl, hI⟩))))))
  have hc4 : c < 4 := by omega
  have hic : vp_in (nI c) 4 := n_in hc4 (by omega)
  have hcl : (nI c).toNatClampNeg = c := n_cl (by omega)
  refine wi_t hi ⟨Or.inr rfl, bz_t1 ?_⟩
  rcases wi_c 0 2 (A := 0) (B := 2) rfl rfl (by omega) (by omega) i2 with h2 | ⟨kd, ⟨-, hkd⟩, rfl, h2⟩
  · refine wi_f h2 (bz_f2 ?_)
    exact m_isAir1 a2 a3 (bz_t1 (m_isAir1 a2 a3 (bz_t2 (wi_tM hi (bz_t2 (bz_t1 (wi_fM h2 (bz_f2 ⟨rfl, hI⟩))))))))
  refine wi_t h2 (bz_t2 ?_)
  rcases wi_c 1 15 (A := 1) (B := 15) rfl rfl (by omega) (by omega) i3 with h3 | ⟨wd, hwd, rfl, h3⟩
  · refine wi_f h3 (bz_f2 ?_)
    exact m_isAir1 a2 a3 (bz_t1 (m_isAir1 a2 a3 (bz_t2 (wi_tM hi (bz_t2 (bz_t1 (wi_tM h2 (bz_t2 (wi_fM h3 (bz_f2 ⟨rfl, hI⟩))))))))))
  refine wi_t h3 (bz_t2 ?_)
  rcases wi_c 1 4 (A := 1) (B := 4) rfl rfl (by omega) (by omega) i4 with h4 | ⟨tr, htr, rfl, h4⟩
  · refine wi_f h4 (bz_f2 ?_)
    exact m_isAir1 a2 a3 (bz_t1 (m_isAir1 a2 a3 (bz_t2 (wi_tM hi (bz_t2 (bz_t1 (wi_tM h2 (bz_t2 (wi_tM h3 (bz_t2 (wi_fM h4 (bz_f2 ⟨rfl, hI⟩))))))))))))
  refine wi_t h4 (bz_t2 ?_)
  rcases wi_c 1 20 (A := 1) (B := 20) rfl rfl (by omega) (by omega) i5 with h5 | ⟨ho, hho, rfl, h5⟩
  · refine wi_f h5 (bz_f1 ?_)
    exact m_isAir1 a2 a3 (bz_t1 (m_isAir1 a2 a3 (bz_t2 (wi_tM hi (bz_t2 (bz_t1 (wi_tM h2 (bz_t2 (wi_tM h3 (bz_t2 (wi_tM h4 (bz_t2 (wi_fM h5 (bz_f1 ⟨rfl, hI⟩))))))))))))))
  refine wi_t h5 (bz_t1 ⟨hic, ?_⟩)
  rw [hcl]
  by_cases s0 : hm.1 81 c = 0
  · obtain ⟨k, X, l1, l2, l3, l4⟩ := hI.2.2.2.2.2
    refine bc_t' (by rw [st_eq hI hc4]; exact s0) (k_countOf hc4 l1 l3.1 ?_)
    by_cases cn : cnX c X k = 0
    · have hno := (cnX_0 k).mp cn
      have hk4 := l3.lt4 l1.1 hc4 hno
      have hr := lc_ge l1 (show k < 5 by omega)
      refine bc_t (by rw [cn]; decide) ⟨hic, ?_⟩
      refine k_vanish fun h1 e1 v1 v2 f1 => ?_
      have er : (si (si h1 (34 + 11 * c) 1 1) (34 + 11 * c) 3 (nI tr)).2.1 k = hc.2.1 k := by rw [si_2, si_2, e1]
      have f1' : ∀ a b, ¬ sVa (34 + 11 * c) a b → ¬ (a = 34 + 11 * c ∧ b = 3) → (si (si h1 (34 + 11 * c) 1 1) (34 + 11 * c) 3 (nI tr)).1 a b = hc.1 a b := fun a b z1 z2 => by
        rw [si_1, if_neg z2, si_1, if_neg (fun y => z1 (by unfold sVa; omega))]; exact f1 a b z1
      have l1' : CLs (si (si h1 (34 + 11 * c) 1 1) (34 + 11 * c) 3 (nI tr)) k X := l1.fr (by rw [si_2, si_2, e1]) (fun a b z1 z2 => f1' a b (by unfold sVa; omega) (by omega)) (f1' _ _ (by unfold sVa; omega) (by omega))
      refine k_send l1' hk4 fun h2' e2 s5 s0' rr f2 => ?_
      rw [er] at rr f2
      rw [er]
      obtain ⟨r0, r1, r2, r3, r4, r5, r6, r7⟩ := rr
      refine ⟨ty_L (l1.2.2.1.1 k (by omega)), ?_⟩
      refine m_isAir1 a2 a3 (bz_t1 (m_isAir1 a2 a3 (bz_t2 (wi_tM hi (bz_t2 (bz_t1 (wi_tM h2 (bz_t2 (wi_tM h3 (bz_t2 (wi_tM h4 (bz_t2 (wi_tM h5 (bz_t1 ⟨hic, ?_⟩))))))))))))))
      rw [hcl]
      refine bc_t' s0 (m_isUnderWay hc4 l2 l3.1 ?_)
      rw [if_pos cn]
      refine bz_f2 ⟨hic, hic, hic, hic, hic, hic, ?_⟩
      have m1 : ∀ a b, ¬ (81 ≤ a ∧ a ≤ 88 ∧ b = c) → (si (si (si (si (si (si hm 81 c 1) 82 c (nI kd)) 83 c (nI wd)) 84 c (nI tr)) 85 c (nI ho)) 88 c 0).1 a b = hm.1 a b := fun a b z => by
        rw [si_1, if_neg (by omega), si_1, if_neg (by omega), si_1, if_neg (by omega), si_1, if_neg (by omega), si_1, if_neg (by omega), si_1, if_neg (by omega)]
      refine m_send (k := k) (by omega) ((m1 _ _ (by omega)).trans l2.2.1) fun g2 e3 r3' g39 g80 f3 => ?_
      have q5 : nI (8 * k) + 5 = nI (8 * k + 5) := n_addl _ 5 rfl
      have q6 : nI (8 * k) + 6 = nI (8 * k + 6) := n_addl _ 6 rfl
      rw [q5, q6, n_cl (by omega), n_cl (by omega)]
      have hC : (si (si (si h2' (hc.2.1 k) 2 (nI kd)) (hc.2.1 k) 3 (nI wd)) (hc.2.1 k) 4 (nI ho)).2.1 = hc.2.1 := by rw [si_2, si_2, si_2, e2, si_2, si_2, e1]
      have fC : ∀ a b, ¬ (a = hc.2.1 k ∧ b ≤ 7) → (si (si (si h2' (hc.2.1 k) 2 (nI kd)) (hc.2.1 k) 3 (nI wd)) (hc.2.1 k) 4 (nI ho)).1 a b = h2'.1 a b := fun a b z => by
        rw [si_1, if_neg (by omega), si_1, if_neg (by omega), si_1, if_neg (by omega)]
      have C : ∀ a b, ¬ sVa (34 + 11 * c) a b → ¬ (a = 34 + 11 * c ∧ b = 3) → ¬ sSd (hc.2.1 k) a b → (si (si (si h2' (hc.2.1 k) 2 (nI kd)) (hc.2.1 k) 3 (nI wd)) (hc.2.1 k) 4 (nI ho)).1 a b = hc.1 a b := fun a b z1 z2 z3 => (fC a b (fun y => z3 (Or.inl y))).trans ((f2 a b z3).trans (f1' a b z1 z2))
      have fM : ∀ a b, ¬ (a = 111 ∧ 8 * k ≤ b) → (si (si g2 111 (8 * k + 5) (nI kd)) 111 (8 * k + 6) (nI ho)).1 a b = g2.1 a b := fun a b z => by
        rw [si_1, if_neg (by omega), si_1, if_neg (by omega)]
      have M : ∀ a b, ¬ (81 ≤ a ∧ a ≤ 88 ∧ b = c) → ¬ (a = 111 ∧ 8 * k ≤ b) → ¬ (a = 78 ∧ b = 39) → ¬ (a = 80 ∧ b = 0) → (si (si g2 111 (8 * k + 5) (nI kd)) 111 (8 * k + 6) (nI ho)).1 a b = hm.1 a b := fun a b z1 z2 z3 z4 => (fM a b z2).trans ((f3 a b (by unfold sSnd; omega)).trans (m1 a b z1))
      have v81 : (si (si g2 111 (8 * k + 5) (nI kd)) 111 (8 * k + 6) (nI ho)).1 81 c = 1 := by
        rw [fM _ _ (by omega), f3 _ _ (by unfold sSnd; omega), si_o (by decide), si_o (by decide), si_o (by decide), si_o (by decide), si_o (by decide), si_s]
      have v84 : (si (si g2 111 (8 * k + 5) (nI kd)) 111 (8 * k + 6) (nI ho)).1 84 c = nI tr := by
        rw [fM _ _ (by omega), f3 _ _ (by unfold sSnd; omega), si_o (by decide), si_o (by decide), si_s]
      have hT := hI.2.2.1
      refine ⟨n_in (by omega) (by omega), n_in (by omega) (by omega), ?_, hI.up1 hc4 (fun a b z => C a b (fun y => z (by unfold tC; unfold sVa at y; omega)) (fun y => z (by unfold tC; omega)) (fun y => z (by unfold tC; unfold sSd at y; omega))) (fun a b z => M a b (fun y => z (by unfold tM iN; omega)) (fun y => z (by unfold tM; omega)) (fun y => z (by unfold tM; omega)) (fun y => z (by unfold tM; omega))) (fun j hj => ?_) (Or.inl (Or.inr (Or.inl ⟨?_, v81, tr, htr, ?_, v84, fun j j1 j2 => ?_⟩))) (Or.inr ⟨fun a b z1 z2 => C a b (by unfold sVa; omega) (by omega) (by unfold sSd; omega), fun a b z => M a b (by have := iF_lo z; omega) (by have := iF_lo z; omega) (by have := iF_lo z; omega) (by have := iF_lo z; omega)⟩) ?_⟩
      · rw [fC _ _ (by omega), s5, fM _ _ (by omega), g39]
      · by_cases z : j = 0
        · subst z
          rw [fC _ _ (by omega), s0', fM _ _ (by omega), g80, f1' _ _ (by unfold sVa; omega) (by omega), m1 _ _ (by omega), hT.1 0 (by omega)]
        · rw [C 4 j (by unfold sVa; omega) (by omega) (by unfold sSd; omega), M 80 j (by omega) (by omega) (by omega) (by omega)]
          exact hT.1 j hj
      · rw [fC _ _ (by omega), f2 _ _ (by unfold sSd; omega), si_p (by decide), si_s]
      · rw [fC _ _ (by omega), f2 _ _ (by unfold sSd; omega), si_s]
      · rw [fC _ _ (by omega), f2 _ _ (by unfold sSd; omega), si_p (by omega), si_p (by omega)]
        exact v2 j j1 j2
      · refine RLt.add (hm := hm) (c := c) (x := ((0, c, 0), (-1, -1, nI wd, nI kd, nI ho), fun _ => (0, 0, 0))) l1' l2 l3 hk4 hno rfl (by rw [hC, si_2, si_2, e1]) (by rw [fC _ _ (by omega)]; exact s5) (fun a b z1 z2 z3 => by rw [er] at z3; rw [fC _ _ (by omega)]; exact f2 a b (by unfold sSd; omega)) ?_ (by rw [fM _ _ (by omega)]; exact g39) (fun y hy => M _ _ (by omega) (by omega) (by omega) (by omega)) (fun y hy => M _ _ (by omega) (by omega) (by omega) (by omega)) ?_ ?_ (fun d hd z => ⟨M _ _ (by omega) (by omega) (by omega) (by omega), M _ _ (by omega) (by omega) (by omega) (by omega)⟩) ?_ ((C _ _ (by unfold sVa; omega) (by omega) (by unfold sSd; omega)).trans a1)
        · rw [er]
          refine ⟨?_, ?_, ?_, ?_, fun _ => ⟨?_, ?_⟩, ?_, ?_, fun j hj => absurd hj (by simp)⟩
          · rw [si_p (by decide), si_p (by decide), si_p (by decide)]; exact r1
          · rw [si_p (by decide), si_p (by decide), si_p (by decide)]; exact r5
          · rw [si_p (by decide), si_p (by decide), si_p (by decide)]; exact r6
          · rw [si_p (by decide), si_s]
          · rw [si_p (by decide), si_p (by decide), si_s]
          · rw [si_s]
          · rw [si_p (by decide), si_p (by decide), si_p (by decide)]; exact r0
          · rw [si_p (by decide), si_p (by decide), si_p (by decide)]; exact r7
        · obtain ⟨t1, t2, t3, t4, t5, t6, t7, t8⟩ := r3'
          refine ⟨?_, ?_, ?_, ?_, ?_, fun _ => ⟨?_, ?_⟩, ?_, fun j hj => absurd hj (by simp)⟩
          · rw [si_p (by omega), si_p (by omega)]; exact t1
          · rw [si_p (by omega), si_p (by omega)]; exact t2
          · rw [si_p (by omega), si_p (by omega)]; exact t3
          · rw [si_p (by omega), si_p (by omega)]; exact t4
          · rw [si_p (by omega), si_p (by omega)]; exact t5
          · rw [si_p (by omega), si_s]
          · rw [si_s]
          · rw [si_p (by omega), si_p (by omega)]; exact t8
        · exact ⟨by simp, hc4, by simp, fun j hj => absurd hj (by simp), fun _ => ⟨wd, kd, ho, rfl, hwd, hkd, hho⟩, fun z => absurd z (by simp), fun z => absurd z (by simp), fun z => absurd z (by simp)⟩
        · exact ⟨fun _ => v81, fun z => absurd z (by simp), fun z => absurd z (by simp)⟩
    · have hle := cnX_le (c := c) (X := X) k
      have hk := l1.1
      refine bc_f (by rw [n0, n_ule (by omega) (by omega)]; omega) ?_
      refine m_isAir1 a2 a3 (bz_t1 (m_isAir1 a2 a3 (bz_t2 (wi_tM hi (bz_t2 (bz_t1 (wi_tM h2 (bz_t2 (wi_tM h3 (bz_t2 (wi_tM h4 (bz_t2 (wi_tM h5 (bz_t1 ⟨hic, bc_t' (by rw [hcl]; exact s0) (m_isUnderWay hc4 l2 l3.1 ?_)⟩))))))))))))))
      rw [if_neg cn]
      exact bz_t2 ⟨rfl, hI⟩
  · refine bc_f' (by rw [st_eq hI hc4]; exact s0) ?_
    exact m_isAir1 a2 a3 (bz_t1 (m_isAir1 a2 a3 (bz_t2 (wi_tM hi (bz_t2 (bz_t1 (wi_tM h2 (bz_t2 (wi_tM h3 (bz_t2 (wi_tM h4 (bz_t2 (wi_tM h5 (bz_t1 ⟨hic, bc_f' (by rw [hcl]; exact s0) ⟨rfl, hI⟩⟩))))))))))))))
