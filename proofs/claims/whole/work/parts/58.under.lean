/-! Letters under way: under, frame. -/
theorem lt_cases {hc hm : HP} (hI : InvW hc hm) (i : Int32) : ((∀ Q : Int32 → HP → Prop, Q 0 hc → P_X6_has i hc Q) ∧ ∀ (h : HP) (Q : Int32 → HP → Prop), h.1 = hm.1 → Q 0 h → P_X9_isLetter i h Q) ∨ ∃ p k X, p < k ∧ i = nI p ∧ hc.1 3 0 = 1 ∧ CLs hc k X ∧ MLs hm.1 k X ∧ LsOk hm.1 k X ∧ (∀ Q : Int32 → HP → Prop, Q 1 hc → P_X6_has i hc Q) ∧ ∀ (h : HP) (Q : Int32 → HP → Prop), h.1 = hm.1 → Q 1 h → P_X9_isLetter i h Q := by
  obtain ⟨k, X, l1, l2, l3, l4⟩ := hI.2.2.2.2.2
  have hk := l1.1
  rcases win (k := k) (by omega) i with hw | ⟨p, hp, rfl⟩
  · refine Or.inl ⟨fun Q hQ => k_has0 l1.2.1 hw hQ, fun h Q eh hQ => ?_⟩
    rcases air_cases hI with ⟨a1, a2⟩ | ⟨a1, on, a2, a3⟩
    · exact m_isAir0 (by rw [eh]; exact a2) (bz_f2 hQ)
    · refine m_isAir1 (by rw [eh]; exact a2) a3 (bz_t2 ?_)
      rw [eh, l2.2.1]
      exact wi_fM hw (bz_f2 hQ)
  · rcases air_cases hI with ⟨a1, a2⟩ | ⟨a1, on, a2, a3⟩
    · have := l4 a1
      omega
    · refine Or.inr ⟨p, k, X, hp, rfl, a1, l1, l2, l3, fun Q hQ => k_has1 l1.2.1 hk hp hQ, fun h Q eh hQ => ?_⟩
      refine m_isAir1 (by rw [eh]; exact a2) a3 (bz_t2 ?_)
      rw [eh, l2.2.1]
      exact wi_tM (win_in (by omega) hp) (bz_t2 hQ)
theorem underV {hc hm : HP} {k p : Nat} {X : Nat → LT} (l1 : CLs hc k X) (l2 : MLs hm.1 k X) (hp : p < k) (i : Int32) : VV (P_X2_tell (hc.2.1 p) i) (P_X9_underNow (nI p) i) hc hm := by
  have hk := l1.1
  obtain ⟨a1, a2, a3, a4, a5, a6, a7, a8⟩ := l1.2.2.2 p hp
  obtain ⟨b1, b2, b3, b4, b5, b6, b7, b8⟩ := l2.2.2 p hp
  have M : ∀ (h : HP) (Q : Int32 → HP → Prop), h.1 = hm.1 → ((i.toInt = 0 → Q (nI (X p).1.1) h) ∧ (i.toInt = 1 → Q (nI (X p).1.2.1) h) ∧ (i.toInt = 2 → Q (nI (X p).1.2.2) h) ∧ (i.toInt = 3 → Q (X p).2.1.1 h) ∧ (i.toInt = 4 → Q (X p).2.1.2.1 h) ∧ ((i.toInt < 0 ∨ 4 < i.toInt) → Q (X p).2.1.2.2.1 h)) → P_X9_underNow (nI p) i h Q := by
    intro h Q eh ⟨q0, q1, q2, q3, q4, q5⟩
    unfold P_X9_underNow
    rw [n8, n_addl _ 1 (B := 1) rfl, n_addl _ 7 (B := 7) rfl, n_addl _ 2 (B := 2) rfl, n_addl _ 3 (B := 3) rfl, n_addl _ 4 (B := 4) rfl, n_cl (by omega), n_cl (by omega), n_cl (by omega), n_cl (by omega), n_cl (by omega), n_cl (by omega), eh, b1, b2, b3, b4, b5, b7]
    exact ⟨fun z => ⟨n_in (by omega) (by omega), q0 z⟩, fun z => ⟨n_in (by omega) (by omega), q1 z⟩, fun z => ⟨n_in (by omega) (by omega), q2 z⟩, fun z => ⟨n_in (by omega) (by omega), q3 z⟩, fun z => ⟨n_in (by omega) (by omega), q4 z⟩, fun z => ⟨n_in (by omega) (by omega), q5 z⟩⟩
  have C : ∀ (Q : Int32 → HP → Prop), ((i.toInt = 0 → Q (nI (X p).1.1) hc) ∧ (i.toInt = 1 → Q (nI (X p).1.2.1) hc) ∧ (i.toInt = 2 → Q (nI (X p).1.2.2) hc) ∧ (i.toInt = 3 → Q (X p).2.1.1 hc) ∧ (i.toInt = 4 → Q (X p).2.1.2.1 hc) ∧ ((i.toInt < 0 ∨ 4 < i.toInt) → Q (X p).2.1.2.2.1 hc)) → P_X2_tell (hc.2.1 p) i hc Q := by
    intro Q q
    unfold P_X2_tell
    rw [a1, a2, a3, a4, a6, a7]
    exact q
  have hi : i.toInt = 0 ∨ i.toInt = 1 ∨ i.toInt = 2 ∨ i.toInt = 3 ∨ i.toInt = 4 ∨ i.toInt < 0 ∨ 4 < i.toInt := by omega
  rcases hi with hi | hi | hi | hi | hi | hi
  · exact ⟨nI (X p).1.1, fun Q hQ => C Q ⟨fun _ => hQ, fun z => by omega, fun z => by omega, fun z => by omega, fun z => by omega, fun z => by omega⟩, fun h Q eh hQ => M h Q eh ⟨fun _ => hQ, fun z => by omega, fun z => by omega, fun z => by omega, fun z => by omega, fun z => by omega⟩⟩
  · exact ⟨nI (X p).1.2.1, fun Q hQ => C Q ⟨fun z => by omega, fun _ => hQ, fun z => by omega, fun z => by omega, fun z => by omega, fun z => by omega⟩, fun h Q eh hQ => M h Q eh ⟨fun z => by omega, fun _ => hQ, fun z => by omega, fun z => by omega, fun z => by omega, fun z => by omega⟩⟩
  · exact ⟨nI (X p).1.2.2, fun Q hQ => C Q ⟨fun z => by omega, fun z => by omega, fun _ => hQ, fun z => by omega, fun z => by omega, fun z => by omega⟩, fun h Q eh hQ => M h Q eh ⟨fun z => by omega, fun z => by omega, fun _ => hQ, fun z => by omega, fun z => by omega, fun z => by omega⟩⟩
  · exact ⟨(X p).2.1.1, fun Q hQ => C Q ⟨fun z => by omega, fun z => by omega, fun z => by omega, fun _ => hQ, fun z => by omega, fun z => by omega⟩, fun h Q eh hQ => M h Q eh ⟨fun z => by omega, fun z => by omega, fun z => by omega, fun _ => hQ, fun z => by omega, fun z => by omega⟩⟩
  · exact ⟨(X p).2.1.2.1, fun Q hQ => C Q ⟨fun z => by omega, fun z => by omega, fun z => by omega, fun z => by omega, fun _ => hQ, fun z => by omega⟩, fun h Q eh hQ => M h Q eh ⟨fun z => by omega, fun z => by omega, fun z => by omega, fun z => by omega, fun _ => hQ, fun z => by omega⟩⟩
  · exact ⟨(X p).2.1.2.2.1, fun Q hQ => C Q ⟨fun z => by omega, fun z => by omega, fun z => by omega, fun z => by omega, fun z => by omega, fun _ => hQ⟩, fun h Q eh hQ => M h Q eh ⟨fun z => by omega, fun z => by omega, fun z => by omega, fun z => by omega, fun z => by omega, fun _ => hQ⟩⟩
theorem o_under (i j : Int32) : OpI (P_X8_under i j) (P_X9_under i j) InvW := by
  intro hc hm hI
  rcases lt_cases hI i with ⟨k1, k2⟩ | ⟨p, k, X, hp, rfl, a1, l1, l2, l3, k1, k2⟩
  · refine k1 _ (bz_f1 ?_)
    exact k2 hm _ rfl (bz_f1 ⟨rfl, hI⟩)
  · have hk := l1.1
    refine k1 _ (bz_t1 ?_)
    rcases wi_c 0 5 (A := 0) (B := 5) rfl rfl (by omega) (by omega) j with hw | ⟨n, -, -, hw⟩
    · refine wi_f hw (bz_f1 ?_)
      exact k2 hm _ rfl (bz_t1 (wi_fM hw (bz_f2 ⟨rfl, hI⟩)))
    · refine wi_t hw (bz_t1 ?_)
      refine k_at l1 hp ⟨ty_L (l1.2.2.1.1 p (by omega)), ?_⟩
      obtain ⟨v, v1, v2⟩ := underV l1 l2 hp j
      refine v1 _ ?_
      exact k2 hm _ rfl (bz_t1 (wi_tM hw (bz_t2 (v2 hm _ rfl ⟨rfl, hI⟩))))
theorem k_hasFrame1 {r n p : Nat} {h : HP} {Q : Int32 → HP → Prop} (e : h.1 r 7 = nI n) (hn : n ≤ 8) (hp : p < n) (hQ : Q 1 h) : P_X2_hasFrame r (nI p) h Q := by
  unfold P_X2_hasFrame
  rw [e]
  exact wi_t (win_in (by omega) hp) ⟨Or.inr rfl, hQ⟩
theorem k_hasFrame0 {r n : Nat} {i : Int32} {h : HP} {Q : Int32 → HP → Prop} (e : h.1 r 7 = nI n) (hw : i < 0 ∨ nI n - 1 < i) (hQ : Q 0 h) : P_X2_hasFrame r i h Q := by
  unfold P_X2_hasFrame
  rw [e]
  exact wi_f hw ⟨Or.inl rfl, hQ⟩
theorem frameV {hc hm : HP} {k p j m : Nat} {X : Nat → LT} (l1 : CLs hc k X) (l2 : MLs hm.1 k X) (l3 : LsOk hm.1 k X) (hp : p < k) (hj : j < (X p).1.2.2) (hm3 : m ≤ 3) {Q : Int32 → HP → Prop} (hQ : Q (hm.1 112 (32 * p + 4 * j + m)) hc) : P_X2_tellFrame (hc.2.1 p) (nI j) (nI m) hc Q := by
  have h8 := (l3.1 p hp).2.2.1
  obtain ⟨a1, a2, a3, a4, a5, a6, a7, a8⟩ := l1.2.2.2 p hp
  obtain ⟨b1, b2, b3, b4, b5, b6, b7, b8⟩ := l2.2.2 p hp
  obtain ⟨x1, x2, x3, x4⟩ := a8 j hj
  obtain ⟨y1, y2, y3, y4⟩ := b8 j hj
  refine k_hasFrame1 a7 h8 hj (bz_t1 ?_)
  have hv : vp_in (nI j) 8 := n_in (by omega) (by omega)
  rw [n_cl (by omega), x1, x2, x3, x4]
  have hm' : m = 0 ∨ m = 1 ∨ m = 2 ∨ m = 3 := by omega
  rcases hm' with rfl | rfl | rfl | rfl
  · rw [Nat.add_zero, y1] at hQ
    exact ⟨fun _ => ⟨hv, hQ⟩, fun z => absurd z (by decide), fun z => absurd z (by decide), fun z => absurd z (by decide)⟩
  · rw [y2] at hQ
    exact ⟨fun z => absurd z (by decide), fun _ => ⟨hv, hQ⟩, fun z => absurd z (by decide), fun z => absurd z (by decide)⟩
  · rw [y3] at hQ
    exact ⟨fun z => absurd z (by decide), fun z => absurd z (by decide), fun _ => ⟨hv, hQ⟩, fun z => absurd z (by decide)⟩
  · rw [y4] at hQ
    exact ⟨fun z => absurd z (by decide), fun z => absurd z (by decide), fun z => absurd z (by decide), fun _ => ⟨hv, hQ⟩⟩
theorem o_frame (i j l : Int32) : OpI (P_X8_frame i j l) (P_X9_frame i j l) InvW := by
  intro hc hm hI
  rcases lt_cases hI i with ⟨k1, k2⟩ | ⟨p, k, X, hp, rfl, a1, l1, l2, l3, k1, k2⟩
  · refine k1 _ (bz_f2 ?_)
    exact k2 hm _ rfl (bz_f2 ⟨rfl, hI⟩)
  · have hk := l1.1
    have hty := ty_L (l1.2.2.1.1 p (by omega))
    have h8 := (l3.1 p hp).2.2.1
    have a7 : hc.1 (hc.2.1 p) 7 = nI (X p).1.2.2 := (l1.2.2.2 p hp).2.2.2.2.2.2.1
    have b7 : hm.1 111 (8 * p + 7) = nI (X p).1.2.2 := (l2.2.2 p hp).2.2.2.2.2.2.1
    have e7 : 8 * nI p + 7 = nI (8 * p + 7) := by rw [n8, n_addl _ 7 (B := 7) rfl]
    have v7 : vp_in (nI (8 * p + 7)) 128 := n_in (by omega) (by omega)
    refine k1 _ (bz_t2 ?_)
    refine k_at l1 hp ⟨hty, ?_⟩
    rcases win (k := (X p).1.2.2) (by omega) j with hw | ⟨f, hf, rfl⟩
    · refine k_hasFrame0 a7 hw (bz_f1 ?_)
      refine k2 hm _ rfl (bz_t2 ?_)
      rw [e7, n_cl (by omega), b7]
      exact ⟨v7, wi_fM hw (bz_f1 ⟨rfl, hI⟩)⟩
    · have hw := win_in (k := (X p).1.2.2) (by omega) hf
      refine k_hasFrame1 a7 h8 hf (bz_t1 ?_)
      rcases wi_c 0 3 (A := 0) (B := 3) rfl rfl (by omega) (by omega) l with hl | ⟨m, ⟨-, m3⟩, rfl, hl⟩
      · refine wi_f hl (bz_f1 ?_)
        refine k2 hm _ rfl (bz_t2 ?_)
        rw [e7, n_cl (by omega), b7]
        exact ⟨v7, wi_tM hw (bz_t1 (wi_fM hl (bz_f2 ⟨rfl, hI⟩)))⟩
      · refine wi_t hl (bz_t1 ?_)
        refine k_at l1 hp ⟨hty, ?_⟩
        refine frameV l1 l2 l3 hp hf m3 ?_
        refine k2 hm _ rfl (bz_t2 ?_)
        rw [e7, n_cl (by omega), b7]
        refine ⟨v7, wi_tM hw (bz_t1 (wi_tM hl (bz_t2 ?_)))⟩
        rw [n32, n4, nI_add, nI_add, n_cl (by omega)]
        exact ⟨n_in (by omega) (by omega), rfl, hI⟩
