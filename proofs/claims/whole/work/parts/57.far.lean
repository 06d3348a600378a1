/-! far, held, as, released. -/
theorem RF.os {hc hm : HP} {c : Nat} (h : RF hc hm c) : ∃ os : OS, CO hc.1 (41 + 11 * c) os ∧ MO hm.1 c os := by
  rcases h with ⟨os, -, -, a, b⟩ | ⟨y, -, a, b⟩
  · exact ⟨os, a, b⟩
  · exact ⟨y.2.2.2.2.2.2, a.2.2.2.2.2.2.2.2.2.2.2.2, b.2.2.2.2.2.2.2.2.2.2.2.2⟩
theorem farV {hc hm : HP} (hI : InvW hc hm) {c : Nat} (hc4 : c < 4) (i : Int32) : VV (P_X1_tell (41 + 11 * c) i) (P_X9_farNow (nI c) i) hc hm := by
  have hic : vp_in (nI c) 4 := n_in hc4 (by omega)
  have hcl : (nI c).toNatClampNeg = c := n_cl (by omega)
  rcases hI.2.2.2.2.1 c hc4 with ⟨os, a1, a2, -⟩ | ⟨y, ok, a, b⟩
  · by_cases i0 : i = 0
    · refine ⟨0, fun Q hQ => bc_t' i0 ((p_flag ..).mpr ?_), fun h Q eh hQ => bc_t' i0 ⟨hic, ?_⟩⟩
      · rw [if_pos a1]; exact hQ
      · rw [hcl, eh]; exact bc_t a2 hQ
    · exact ⟨-1, fun Q hQ => bc_f' i0 (bc_t' a1 hQ), fun h Q eh hQ => bc_f' i0 ⟨hic, bc_t' (by rw [hcl, eh]; exact a2) hQ⟩⟩
  · obtain ⟨b1, b2, b3, b4, b5, b6, b7, b8, b9, b10, b11, b12, b13⟩ := id a
    obtain ⟨c1, c2, c3, c4, c5, c6, c7, c8, c9, c10, c11, c12, c13⟩ := id b
    have hw : y.1.2.1 ≤ 12 := ok.2.1.2
    have hK : KOk y.1.2.1 y.2.2.2.2.2.1 := ok.2.2.2.2.2.2.2.1
    have d1 : ¬ hc.1 (41 + 11 * c) 2 = 0 := by rw [b1]; decide
    have d2 : ¬ hm.1 99 c = 0 := by rw [c1]; decide
    by_cases i0 : i = 0
    · refine ⟨1, fun Q hQ => bc_t' i0 ((p_flag ..).mpr ?_), fun h Q eh hQ => bc_t' i0 ⟨hic, ?_⟩⟩
      · rw [if_neg d1]; exact hQ
      · rw [hcl, eh]; exact bc_f d2 hQ
    have hi : i.toInt = 1 ∨ i.toInt = 2 ∨ i.toInt = 3 ∨ i.toInt = 4 ∨ i.toInt = 5 ∨ i.toInt = 6 ∨ i.toInt = 7 ∨ i.toInt < 1 ∨ 7 < i.toInt := by omega
    rcases hi with hi | hi | hi | hi | hi | hi | hi | hi
    · refine ⟨nI y.1.1, fun Q hQ => ?_, fun h Q eh hQ => ?_⟩
      · exact bc_f' i0 (bc_f' d1 ⟨fun _ => by rw [b2]; exact hQ, fun z => by omega, fun z => by omega, fun z => by omega, fun z => by omega, fun z => by omega, fun z => by omega, fun z => by omega⟩)
      · exact bc_f' i0 ⟨hic, bc_f' (by rw [hcl, eh]; exact d2) ⟨fun _ => ⟨hic, by rw [hcl, eh, c2]; exact hQ⟩, fun z => by omega, fun z => by omega, fun z => by omega, fun z => by omega, fun z => by omega, fun z => by omega, fun z => by omega⟩⟩
    · refine ⟨nI y.1.2.1, fun Q hQ => ?_, fun h Q eh hQ => ?_⟩
      · exact bc_f' i0 (bc_f' d1 ⟨fun z => by omega, fun _ => by rw [b3]; exact hQ, fun z => by omega, fun z => by omega, fun z => by omega, fun z => by omega, fun z => by omega, fun z => by omega⟩)
      · exact bc_f' i0 ⟨hic, bc_f' (by rw [hcl, eh]; exact d2) ⟨fun z => by omega, fun _ => ⟨hic, by rw [hcl, eh, c3]; exact hQ⟩, fun z => by omega, fun z => by omega, fun z => by omega, fun z => by omega, fun z => by omega, fun z => by omega⟩⟩
    · refine ⟨nI y.2.2.2.1, fun Q hQ => ?_, fun h Q eh hQ => ?_⟩
      · exact bc_f' i0 (bc_f' d1 ⟨fun z => by omega, fun z => by omega, fun _ => by rw [b10]; exact hQ, fun z => by omega, fun z => by omega, fun z => by omega, fun z => by omega, fun z => by omega⟩)
      · exact bc_f' i0 ⟨hic, bc_f' (by rw [hcl, eh]; exact d2) ⟨fun z => by omega, fun z => by omega, fun _ => ⟨hic, by rw [hcl, eh, c10]; exact hQ⟩, fun z => by omega, fun z => by omega, fun z => by omega, fun z => by omega, fun z => by omega⟩⟩
    · refine ⟨nI y.1.2.2.2.1, fun Q hQ => ?_, fun h Q eh hQ => ?_⟩
      · exact bc_f' i0 (bc_f' d1 ⟨fun z => by omega, fun z => by omega, fun z => by omega, fun _ => by rw [b5]; exact hQ, fun z => by omega, fun z => by omega, fun z => by omega, fun z => by omega⟩)
      · exact bc_f' i0 ⟨hic, bc_f' (by rw [hcl, eh]; exact d2) ⟨fun z => by omega, fun z => by omega, fun z => by omega, fun _ => ⟨hic, by rw [hcl, eh, c5]; exact hQ⟩, fun z => by omega, fun z => by omega, fun z => by omega, fun z => by omega⟩⟩
    · refine ⟨nI y.1.2.2.2.2, fun Q hQ => ?_, fun h Q eh hQ => ?_⟩
      · exact bc_f' i0 (bc_f' d1 ⟨fun z => by omega, fun z => by omega, fun z => by omega, fun z => by omega, fun _ => by rw [b6]; exact hQ, fun z => by omega, fun z => by omega, fun z => by omega⟩)
      · exact bc_f' i0 ⟨hic, bc_f' (by rw [hcl, eh]; exact d2) ⟨fun z => by omega, fun z => by omega, fun z => by omega, fun z => by omega, fun _ => ⟨hic, by rw [hcl, eh, c6]; exact hQ⟩, fun z => by omega, fun z => by omega, fun z => by omega⟩⟩
    · refine ⟨nI (hcN y.1.2.1 y.2.2.2.2.2.1), fun Q hQ => ?_, fun h Q eh hQ => ?_⟩
      · exact bc_f' i0 (bc_f' d1 ⟨fun z => by omega, fun z => by omega, fun z => by omega, fun z => by omega, fun z => by omega, fun _ => k_heldCount hw b3 hK a.2.2.2.2.2.2.2.2 hQ, fun z => by omega, fun z => by omega⟩)
      · exact bc_f' i0 ⟨hic, bc_f' (by rw [hcl, eh]; exact d2) ⟨fun z => by omega, fun z => by omega, fun z => by omega, fun z => by omega, fun z => by omega, fun _ => m_heldMany hc4 hw (by rw [eh]; exact c3) hK (by rw [eh]; exact b.2.2.2.2.2.2.2.2) hQ, fun z => by omega, fun z => by omega⟩⟩
    · refine ⟨nI y.2.2.2.2.1, fun Q hQ => ?_, fun h Q eh hQ => ?_⟩
      · exact bc_f' i0 (bc_f' d1 ⟨fun z => by omega, fun z => by omega, fun z => by omega, fun z => by omega, fun z => by omega, fun z => by omega, fun _ => by rw [b11]; exact hQ, fun z => by omega⟩)
      · exact bc_f' i0 ⟨hic, bc_f' (by rw [hcl, eh]; exact d2) ⟨fun z => by omega, fun z => by omega, fun z => by omega, fun z => by omega, fun z => by omega, fun z => by omega, fun _ => ⟨hic, by rw [hcl, eh, c11]; exact hQ⟩, fun z => by omega⟩⟩
    · refine ⟨y.2.1, fun Q hQ => ?_, fun h Q eh hQ => ?_⟩
      · exact bc_f' i0 (bc_f' d1 ⟨fun z => by omega, fun z => by omega, fun z => by omega, fun z => by omega, fun z => by omega, fun z => by omega, fun z => by omega, fun _ => by rw [b7]; exact hQ⟩)
      · exact bc_f' i0 ⟨hic, bc_f' (by rw [hcl, eh]; exact d2) ⟨fun z => by omega, fun z => by omega, fun z => by omega, fun z => by omega, fun z => by omega, fun z => by omega, fun z => by omega, fun _ => ⟨hic, by rw [hcl, eh, c7]; exact hQ⟩⟩⟩
theorem o_far (i j : Int32) : OpI (P_X8_far i j) (P_X9_far i j) InvW := by
  intro hc hm hI
  rcases cls_cases hI i with ⟨k1, k2⟩ | ⟨c, hc4, rfl, a1, k1, k2⟩
  · refine k1 _ (bz_f1 ?_)
    exact k2 hm _ rfl (bz_f1 ⟨rfl, hI⟩)
  · refine k1 _ (bz_t1 ?_)
    rcases wi_c 0 8 (A := 0) (B := 8) rfl rfl (by omega) (by omega) j with hw | ⟨n, -, -, hw⟩
    · refine wi_f hw (bz_f1 ?_)
      exact k2 hm _ rfl (bz_t1 (wi_fM hw (bz_f2 ⟨rfl, hI⟩)))
    · refine wi_t hw (bz_t1 ⟨n_in hc4 (by omega), ?_⟩)
      rw [n_cl (by omega)]
      obtain ⟨v, v1, v2⟩ := farV hI hc4 j
      refine v1 _ ?_
      exact k2 hm _ rfl (bz_t1 (wi_tM hw (bz_t2 (v2 hm _ rfl ⟨rfl, hI⟩))))
theorem o_held (i j : Int32) : OpI (P_X8_held i j) (P_X9_held i j) InvW := by
  intro hc hm hI
  rcases cls_cases hI i with ⟨k1, k2⟩ | ⟨c, hc4, rfl, a1, k1, k2⟩
  · refine k1 _ (bz_f2 ?_)
    exact k2 hm _ rfl (bz_f2 ⟨rfl, hI⟩)
  · have hic : vp_in (nI c) 4 := n_in hc4 (by omega)
    have hcl : (nI c).toNatClampNeg = c := n_cl (by omega)
    refine k1 _ (bz_t2 ⟨hic, ?_⟩)
    try rw [hcl]
    rcases hI.2.2.2.2.1 c hc4 with ⟨os, a1, a2, -⟩ | ⟨y, ok, a, b⟩
    · refine bc_t a1 (bz_f1 ?_)
      exact k2 hm _ rfl (bz_t2 ⟨hic, bc_t (by rw [hcl]; exact a2) ⟨rfl, hI⟩⟩)
    · obtain ⟨b1, b2, b3, b4, b5, b6, b7, b8, b9, b10, b11, b12, b13⟩ := id a
      obtain ⟨c1, c2, c3, c4, c5, c6, c7, c8, c9, c10, c11, c12, c13⟩ := id b
      have hw12 : y.1.2.1 ≤ 12 := ok.2.1.2
      have d1 : ¬ hc.1 (41 + 11 * c) 2 = 0 := by rw [b1]; decide
      have d2 : ¬ hm.1 99 c = 0 := by rw [c1]; decide
      refine bc_f d1 ?_
      rw [b3]
      rcases win (k := y.1.2.1) (by omega) j with hw | ⟨p, hp, rfl⟩
      · refine wi_f hw (bz_f2 (bz_f1 ?_))
        refine k2 hm _ rfl (bz_t2 ⟨hic, bc_f (by rw [hcl]; exact d2) ⟨hic, ?_⟩⟩)
        rw [hcl, c3]
        exact wi_fM hw (bz_f1 ⟨rfl, hI⟩)
      · have hw := win_in (k := y.1.2.1) (by omega) hp
        refine wi_t hw (bz_t2 (bz_t1 ⟨hic, ?_⟩))
        try rw [hcl]
        refine k_keptAt b9 b10 b12 (by omega) ?_
        refine k2 hm _ rfl (bz_t2 ⟨hic, bc_f (by rw [hcl]; exact d2) ⟨hic, ?_⟩⟩)
        rw [hcl, c3]
        refine wi_tM hw (bz_t1 ⟨hic, ?_⟩)
        rw [c10, n_at hc4 (by omega), n_cl (by omega)]
        refine ⟨n_in (by omega) (by omega), ?_, hI⟩
        exact (c12 p (by omega)).symm
theorem o_as (i j : Int32) : OpI (P_X8_as i j) (P_X9_as i j) InvW := by
  intro hc hm hI
  rcases cls_cases hI i with ⟨k1, k2⟩ | ⟨c, hc4, rfl, a1, k1, k2⟩
  · refine k1 _ (bz_f2 ?_)
    exact k2 hm _ rfl (bz_f2 ⟨rfl, hI⟩)
  · have hic : vp_in (nI c) 4 := n_in hc4 (by omega)
    have hcl : (nI c).toNatClampNeg = c := n_cl (by omega)
    refine k1 _ (bz_t2 ⟨hic, ?_⟩)
    try rw [hcl]
    rcases hI.2.2.2.2.1 c hc4 with ⟨os, a1, a2, -⟩ | ⟨y, ok, a, b⟩
    · refine bc_t' a1 ?_
      exact k2 hm _ rfl (bz_t2 ⟨hic, bc_t' (by rw [hcl]; exact a2) ⟨rfl, hI⟩⟩)
    · have d1 : ¬ hc.1 (41 + 11 * c) 2 = 0 := by rw [a.1]; decide
      have d2 : ¬ hm.1 99 c = 0 := by rw [b.1]; decide
      have e1 : hc.1 (41 + 11 * c) 3 = hm.1 100 c := a.2.1.trans b.2.1.symm
      refine bc_f' d1 ?_
      rcases wi_c 0 2 (A := 0) (B := 2) rfl rfl (by omega) (by omega) j with hw | ⟨n, -, -, hw⟩
      · refine wi_f hw (bz_f1 ?_)
        exact k2 hm _ rfl (bz_t2 ⟨hic, bc_f' (by rw [hcl]; exact d2) (wi_fM hw (bz_f1 ⟨rfl, hI⟩))⟩)
      · refine wi_t hw (bz_t1 ⟨hic, ?_⟩)
        try rw [hcl]
        by_cases g1 : hm.1 100 c = j
        · refine bc_t (by rw [e1]; exact g1) (bz_t2 ⟨hic, ?_⟩)
          try rw [hcl]
          refine k2 hm _ rfl (bz_t2 ⟨hic, bc_f' (by rw [hcl]; exact d2) (wi_tM hw (bz_t1 ⟨hic, bc_t (by rw [hcl]; exact g1) ?_⟩))⟩)
          try rw [hcl]
          exact ⟨e1, hI⟩
        · refine bc_f (by rw [e1]; exact g1) ?_
          by_cases g2 : hm.1 100 c = 1
          · refine bc_t' (by rw [e1]; exact g2) ?_
            by_cases g3 : j = 0
            · refine bc_t' g3 (bz_t2 ⟨hic, ?_⟩)
              try rw [hcl]
              refine k2 hm _ rfl (bz_t2 ⟨hic, bc_f' (by rw [hcl]; exact d2) (wi_tM hw (bz_t1 ⟨hic, bc_f (by rw [hcl]; exact g1) (bc_t' (by rw [hcl]; exact g2) (bc_t' g3 ?_))⟩))⟩)
              try rw [hcl]
              exact ⟨e1, hI⟩
            · refine bc_f' g3 (bz_f2 ?_)
              exact k2 hm _ rfl (bz_t2 ⟨hic, bc_f' (by rw [hcl]; exact d2) (wi_tM hw (bz_t1 ⟨hic, bc_f (by rw [hcl]; exact g1) (bc_t' (by rw [hcl]; exact g2) (bc_f' g3 ⟨rfl, hI⟩))⟩))⟩)
          · refine bc_f' (by rw [e1]; exact g2) (bz_f2 ?_)
            exact k2 hm _ rfl (bz_t2 ⟨hic, bc_f' (by rw [hcl]; exact d2) (wi_tM hw (bz_t1 ⟨hic, bc_f (by rw [hcl]; exact g1) (bc_f' (by rw [hcl]; exact g2) ⟨rfl, hI⟩)⟩))⟩)
theorem k_outHas1 {F n p : Nat} {h : HP} {Q : Int32 → HP → Prop} (e : h.1 F 1 = nI n) (hn : n ≤ 10) (hp : p < n) (hQ : Q 1 h) : P_X4_has F (nI p) h Q := by
  unfold P_X4_has
  rw [e]
  exact wi_t (win_in (by omega) hp) ⟨Or.inr rfl, hQ⟩
theorem k_outHas0 {F n : Nat} {i : Int32} {h : HP} {Q : Int32 → HP → Prop} (e : h.1 F 1 = nI n) (hw : i < 0 ∨ nI n - 1 < i) (hQ : Q 0 h) : P_X4_has F i h Q := by
  unfold P_X4_has
  rw [e]
  exact wi_f hw ⟨Or.inl rfl, hQ⟩
theorem k_outAt {F p : Nat} {os : OS} {h : HP} {Q : Int32 → HP → Prop} (a : CO h.1 F os) (hp : p < os.1) (hQ : Q (os.2.1 p) h) : P_X4_at (F + 1) (nI p) h Q := by
  have h1 := a.1
  refine k_outHas1 a.2.1 h1 hp (bz_t2 ⟨n_in (by omega) (by omega), ?_⟩)
  rw [n_cl (by omega)]
  rw [← a.2.2.1 p hp] at hQ
  exact hQ
theorem o_released (i j : Int32) : OpI (P_X8_released i j) (P_X9_released i j) InvW := by
  intro hc hm hI
  rcases cls_cases hI i with ⟨k1, k2⟩ | ⟨c, hc4, rfl, a1, k1, k2⟩
  · refine k1 _ (bz_f2 ?_)
    exact k2 hm _ rfl (bz_f2 ⟨rfl, hI⟩)
  · have hic : vp_in (nI c) 4 := n_in hc4 (by omega)
    have hcl : (nI c).toNatClampNeg = c := n_cl (by omega)
    refine k1 _ (bz_t2 ⟨hic, ?_⟩)
    try rw [hcl]
    obtain ⟨os, a, b⟩ := (hI.2.2.2.2.1 c hc4).os
    have h10 := a.1
    rcases win (k := os.1) (by omega) j with hw | ⟨p, hp, rfl⟩
    · refine k_outHas0 a.2.1 hw (bz_f1 ?_)
      refine k2 hm _ rfl (bz_t2 ⟨hic, ?_⟩)
      rw [hcl, b.2.1]
      exact wi_fM hw (bz_f2 ⟨rfl, hI⟩)
    · refine k_outHas1 a.2.1 h10 hp (bz_t1 ⟨hic, ?_⟩)
      try rw [hcl]
      refine k_outAt a hp ?_
      refine k2 hm _ rfl (bz_t2 ⟨hic, ?_⟩)
      rw [hcl, b.2.1]
      refine wi_tM (win_in (by omega) hp) (bz_t2 ?_)
      rw [n10, nI_add, n_cl (by omega)]
      exact ⟨n_in (by omega) (by omega), (b.2.2.1 p hp).symm, hI⟩
