/-! About, count, and what tells whether a class is one. -/
theorem air_cases {hc hm : HP} (h : InvW hc hm) : (hc.1 3 0 = 0 ∧ hm.1 78 0 = 0) ∨ (hc.1 3 0 = 1 ∧ ∃ on, hm.1 78 0 = nI on ∧ 1 ≤ on ∧ on ≤ 9) := by
  rcases h.2.1.2 with z | ⟨z, on, off, rt, bd, a1, a2, a3, a4, b1, b2⟩
  · exact Or.inl z
  · exact Or.inr ⟨z, on, a1, b1⟩
theorem m_isAir0 {h : HP} {Q : Int32 → HP → Prop} (h0 : h.1 78 0 = 0) (hQ : Q 0 h) : P_X9_isAir h Q := by
  unfold P_X9_isAir
  rw [h0]
  exact ⟨fun _ => hQ, fun z => absurd (Int32.le_refl _) z⟩
theorem m_isAir1 {on : Nat} {h : HP} {Q : Int32 → HP → Prop} (h0 : h.1 78 0 = nI on) (h1 : 1 ≤ on ∧ on ≤ 9) (hQ : Q 1 h) : P_X9_isAir h Q := by
  unfold P_X9_isAir
  rw [h0]
  refine ⟨fun z => absurd z ?_, fun _ => hQ⟩
  rw [n0, n_ule (by omega) (by omega)]; omega
/-- one value on both sides -/
def VV (Pc Pm : HP → (Int32 → HP → Prop) → Prop) (hc hm : HP) : Prop := ∃ v, (∀ Q : Int32 → HP → Prop, Q v hc → Pc hc Q) ∧ ∀ (h : HP) (Q : Int32 → HP → Prop), h.1 = hm.1 → Q v h → Pm h Q
theorem aboutV {hc hm : HP} (hI : InvW hc hm) (a1 : hc.1 3 0 = 1) (i : Int32) : VV (P_X0_tell i) (P_X9_aboutNow i) hc hm := by
  obtain ⟨eA, -⟩ := hI.2.1
  obtain ⟨lf, l1, l2, l3⟩ := air_left hI.2.1 a1
  have L2 : ∀ (h : HP) (Q : Int32 → HP → Prop), h.1 = hm.1 → Q lf h → P_X9_left h Q := fun h Q e hQ => l2 h Q (fun j _ => by rw [e]) hQ
  have L1 : ∀ (Q : Int32 → HP → Prop), Q lf hc → P_X0_left hc Q := fun Q hQ => l1 hc Q (fun j => rfl) hQ
  by_cases i5 : i.toInt = 5
  · refine ⟨if lf ≤ 0 then 0 else 1, fun Q hQ => ?_, fun h Q e hQ => ?_⟩
    · unfold P_X0_tell
      refine ⟨fun z => by omega, fun z => by omega, fun z => by omega, fun z => by omega, fun z => by omega, fun _ => ?_, fun z => by omega⟩
      unfold P_X0_isAwake
      refine L1 _ ⟨fun z => ?_, fun z => ?_⟩
      · refine (p_flag _ _ _).mpr ?_; rw [if_pos rfl]; rw [if_pos z] at hQ; exact hQ
      · refine (p_flag _ _ _).mpr ?_; rw [if_neg (by decide)]; rw [if_neg z] at hQ; exact hQ
    · unfold P_X9_aboutNow
      refine ⟨fun z => by omega, fun z => by omega, fun z => by omega, fun z => by omega, fun z => by omega, fun _ => L2 h _ e ⟨fun z => ?_, fun z => ?_⟩, fun z => by omega⟩
      · rw [if_pos z] at hQ; exact hQ
      · rw [if_neg z] at hQ; exact hQ
  · by_cases i4 : 0 ≤ i.toInt ∧ i.toInt ≤ 4
    · refine ⟨hm.1 78 i.toInt.toNat, fun Q hQ => ?_, fun h Q e hQ => ?_⟩
      · have q : ∀ j : Nat, j < 5 → i.toInt = j → Q (hc.1 3 (j + 1)) hc := fun j hj e => by
          rw [eA j hj]
          rw [e] at hQ; exact hQ
        exact ⟨q 0 (by omega), q 1 (by omega), q 2 (by omega), q 3 (by omega), q 4 (by omega), fun z => absurd z i5, fun z => by omega⟩
      · have q : ∀ j : Nat, i.toInt = j → Q (h.1 78 j) h := fun j e' => by
          rw [e' ] at hQ; rw [e]; exact hQ
        exact ⟨q 0, q 1, q 2, q 3, q 4, fun z => absurd z i5, fun z => by omega⟩
    · refine ⟨lf, fun Q hQ => ?_, fun h Q e hQ => ?_⟩
      · exact ⟨fun z => by omega, fun z => by omega, fun z => by omega, fun z => by omega, fun z => by omega, fun z => by omega, fun _ => L1 _ hQ⟩
      · exact ⟨fun z => by omega, fun z => by omega, fun z => by omega, fun z => by omega, fun z => by omega, fun z => by omega, fun _ => L2 h _ e hQ⟩
theorem o_about (i : Int32) : OpI (P_X8_about i) (P_X9_about i) InvW := by
  intro hc hm hI
  unfold P_X8_about
  rw [p_within]
  by_cases hw : i < 0 ∨ 6 < i
  · rw [if_pos hw]
    refine ⟨fun z => absurd rfl z, fun _ => ?_⟩
    show P_X9_about i hm _
    unfold P_X9_about
    rw [p_withinM, if_pos hw]
    exact ⟨fun z => absurd rfl z, fun _ => ⟨rfl, hI⟩⟩
  · rw [if_neg hw]
    refine ⟨fun _ => ?_, fun z => absurd z (by decide)⟩
    rcases air_cases hI with ⟨a1, a2⟩ | ⟨a1, on, a2, a3⟩
    · rw [a1]
      refine ⟨fun _ => ?_, fun z => absurd rfl z⟩
      show P_X9_about i hm _
      unfold P_X9_about
      rw [p_withinM, if_neg hw]
      exact ⟨fun _ => m_isAir0 a2 ⟨fun _ => ⟨rfl, hI⟩, fun z => absurd rfl z⟩, fun z => absurd z (by decide)⟩
    · rw [a1]
      refine ⟨fun z => absurd z (by decide), fun _ => ?_⟩
      obtain ⟨v, v1, v2⟩ := aboutV hI a1 i
      refine v1 _ ?_
      show P_X9_about i hm _
      unfold P_X9_about
      rw [p_withinM, if_neg hw]
      exact ⟨fun _ => m_isAir1 a2 a3 ⟨fun z => absurd z (by decide), fun _ => v2 hm _ rfl ⟨rfl, hI⟩⟩, fun z => absurd z (by decide)⟩
