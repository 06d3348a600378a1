/-! Is it a class of the air; count. -/
theorem cls_cases {hc hm : HP} (hI : InvW hc hm) (i : Int32) : ((∀ Q : Int32 → HP → Prop, Q 0 hc → P_X8_isClassOfAir i hc Q) ∧ ∀ (h : HP) (Q : Int32 → HP → Prop), h.1 = hm.1 → Q 0 h → P_X9_isClass i h Q) ∨ ∃ c, c < 4 ∧ i = nI c ∧ hc.1 3 0 = 1 ∧ (∀ Q : Int32 → HP → Prop, Q 1 hc → P_X8_isClassOfAir i hc Q) ∧ ∀ (h : HP) (Q : Int32 → HP → Prop), h.1 = hm.1 → Q 1 h → P_X9_isClass i h Q := by
  rcases air_cases hI with ⟨a1, a2⟩ | ⟨a1, on, a2, a3⟩
  · refine Or.inl ⟨fun Q hQ => ?_, fun h Q e hQ => ?_⟩
    · unfold P_X8_isClassOfAir
      rw [a1]
      exact ⟨fun _ => hQ, fun z => absurd rfl z⟩
    · unfold P_X9_isClass
      exact m_isAir0 (by rw [e]; exact a2) ⟨fun _ => hQ, fun z => absurd rfl z⟩
  · rcases win (k := 4) (by omega) i with hw | ⟨c, hc4, rfl⟩
    · have hw' : i < 0 ∨ (3 : Int32) < i := hw
      refine Or.inl ⟨fun Q hQ => ?_, fun h Q e hQ => ?_⟩
      · unfold P_X8_isClassOfAir P_X8_isClass
        rw [a1]
        refine ⟨fun z => absurd z (by decide), fun _ => (p_within ..).mpr ?_⟩
        rw [if_pos hw']
        exact ⟨Or.inl rfl, fun _ => hQ, fun z => absurd rfl z⟩
      · unfold P_X9_isClass
        refine m_isAir1 (by rw [e]; exact a2) a3 ⟨fun z => absurd z (by decide), fun _ => (p_withinM ..).mpr ?_⟩
        rw [if_pos hw']
        exact ⟨fun _ => hQ, fun z => absurd rfl z⟩
    · have hw' : ¬ (nI c < 0 ∨ (3 : Int32) < nI c) := win_in (k := 4) (by omega) hc4
      refine Or.inr ⟨c, hc4, rfl, a1, fun Q hQ => ?_, fun h Q e hQ => ?_⟩
      · unfold P_X8_isClassOfAir P_X8_isClass
        rw [a1]
        refine ⟨fun z => absurd z (by decide), fun _ => (p_within ..).mpr ?_⟩
        rw [if_neg hw']
        exact ⟨Or.inr rfl, fun z => absurd z (by decide), fun _ => hQ⟩
      · unfold P_X9_isClass
        refine m_isAir1 (by rw [e]; exact a2) a3 ⟨fun z => absurd z (by decide), fun _ => (p_withinM ..).mpr ?_⟩
        rw [if_neg hw']
        exact ⟨fun z => absurd z (by decide), fun _ => hQ⟩
theorem countV {hc hm : HP} (hI : InvW hc hm) (i : Int32) : VV (P_X8_count i) (P_X9_howMany i) hc hm := by
  obtain ⟨n, hn, c1, m6, hco⟩ := hI.1
  obtain ⟨k, X, l1, l2, l3, l4⟩ := hI.2.2.2.2.2
  obtain ⟨t1, t2⟩ := hI.2.2.1
  by_cases h7 : i.toInt = 7
  · refine ⟨nI k, fun Q hQ => ?_, fun h Q e hQ => ?_⟩
    · refine ⟨fun z => by omega, fun z => by omega, fun z => by omega, fun z => by omega, fun z => by omega, fun z => by omega, fun z => by omega, fun _ => by rw [l1.2.1]; exact hQ, fun z => by omega, fun z => by omega, fun z => by omega⟩
    · exact ⟨fun _ => by rw [e, l2.2.1]; exact hQ, fun z => by omega, fun z => by omega, fun z => by omega⟩
  by_cases h8 : i.toInt = 8
  · refine ⟨nI n, fun Q hQ => ?_, fun h Q e hQ => ?_⟩
    · refine ⟨fun z => by omega, fun z => by omega, fun z => by omega, fun z => by omega, fun z => by omega, fun z => by omega, fun z => by omega, fun z => by omega, fun _ => by rw [c1]; exact hQ, fun z => by omega, fun z => by omega⟩
    · exact ⟨fun z => by omega, fun _ => by rw [e, m6]; exact hQ, fun z => by omega, fun z => by omega⟩
  by_cases h9 : i.toInt = 9
  · refine ⟨hc.1 4 7, fun Q hQ => ?_, fun h Q e hQ => ?_⟩
    · refine ⟨fun z => by omega, fun z => by omega, fun z => by omega, fun z => by omega, fun z => by omega, fun z => by omega, fun z => by omega, fun z => by omega, fun z => by omega, fun _ => hQ, fun z => by omega⟩
    · exact ⟨fun z => by omega, fun z => by omega, fun _ => by rw [e, ← t2]; exact hQ, fun z => by omega⟩
  rcases win (k := 7) (by omega) i with hw | ⟨c, hc4, rfl⟩
  · have hw' : i < 0 ∨ (6 : Int32) < i := hw
    have hb : i.toInt < 0 ∨ 6 < i.toInt := by
      rcases hw' with z | z
      · exact Or.inl (Int32.lt_iff_toInt_lt.mp z)
      · exact Or.inr (Int32.lt_iff_toInt_lt.mp z)
    refine ⟨-102, fun Q hQ => ?_, fun h Q e hQ => ?_⟩
    · exact ⟨fun z => by omega, fun z => by omega, fun z => by omega, fun z => by omega, fun z => by omega, fun z => by omega, fun z => by omega, fun z => by omega, fun z => by omega, fun z => by omega, fun _ => hQ⟩
    · refine ⟨fun z => by omega, fun z => by omega, fun z => by omega, fun _ => (p_withinM ..).mpr ?_⟩
      rw [if_pos hw']
      exact ⟨fun _ => hQ, fun z => absurd rfl z⟩
  · have hw' : ¬ (nI c < 0 ∨ (6 : Int32) < nI c) := win_in (k := 7) (by omega) hc4
    refine ⟨hc.1 4 c, fun Q hQ => ?_, fun h Q e hQ => ?_⟩
    · have q : ∀ j : Nat, (nI c).toInt = j → Q (hc.1 4 j) hc := fun j e' => by
        rw [n_ti (by omega)] at e'
        have : c = j := by omega
        subst this; exact hQ
      rw [n_ti (by omega)] at h7 h8 h9
      unfold P_X8_count
      rw [n_ti (by omega)] at *
      exact ⟨q 0, q 1, q 2, q 3, q 4, q 5, q 6, fun z => absurd z h7, fun z => absurd z h8, fun z => absurd z h9, fun z => by omega⟩
    · refine ⟨fun z => absurd z h7, fun z => absurd z h8, fun z => absurd z h9, fun _ => (p_withinM ..).mpr ?_⟩
      rw [if_neg hw']
      refine ⟨fun z => absurd z (by decide), fun _ => ⟨n_in hc4 (by omega), ?_⟩⟩
      rw [n_cl (by omega), e, ← t1 c hc4]; exact hQ
theorem o_count (i : Int32) : OpI (P_X8_count i) (P_X9_count i) InvW := by
  intro hc hm hI
  obtain ⟨v, v1, v2⟩ := countV hI i
  refine v1 _ ?_
  show P_X9_count i hm _
  unfold P_X9_count
  exact v2 hm _ rfl ⟨rfl, hI⟩
