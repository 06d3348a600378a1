/-! The page: letter, blank, fault. -/
theorem o_letter (i : Int32) : OpI (P_X8_letter i) (P_X9_letter i) InvW := by
  intro hc hm hI
  obtain ⟨hP, hA, hT, hN, hF, hL⟩ := hI
  obtain ⟨n, hn, c1, m6, hco⟩ := id hP
  unfold P_X8_letter
  rw [p_within]
  by_cases hw : i < 32 ∨ 126 < i
  · rw [if_pos hw]
    refine ⟨fun z => absurd rfl z, fun _ => ?_⟩
    show P_X9_letter i hm _
    unfold P_X9_letter
    rw [p_withinM, if_pos hw]
    exact ⟨fun z => absurd rfl z, fun _ => ⟨rfl, hP, hA, hT, hN, hF, hL⟩⟩
  · rw [if_neg hw]
    refine ⟨fun _ => ?_, fun z => absurd z (by decide)⟩
    unfold P_X5_write
    rw [c1, show (9 : Int32) = nI 9 from rfl, n_ult (by omega) (by omega)]
    refine ⟨fun hlt => ⟨n_in hlt (by omega), fun z => absurd z (by decide), fun _ => ?_⟩, fun hlt => ⟨fun _ => ?_, fun z => absurd rfl z⟩⟩
    · show P_X9_letter i hm _
      unfold P_X9_letter
      rw [p_withinM, if_neg hw, m6]
      refine ⟨fun _ => ⟨fun _ => ⟨n_in hlt (by omega), ?_⟩, fun z => ?_⟩, fun z => absurd z (by decide)⟩
      · rw [n_cl (by omega), si_s, si_o (by decide), c1, si_s, si_o (by decide), m6]
        refine ⟨rfl, ⟨n + 1, by omega, ?_, ?_, fun j hj => ?_⟩, ?_, ?_, fun c hc' => ?_, fun c hc' => ?_, ?_⟩
        · rw [si_s, nI_1]
        · rw [si_s, nI_1]
        · rw [si_o (show (2 : Nat) ≠ 1 by decide), si_o (show (79 : Nat) ≠ 78 by decide)]
          by_cases hjn : j = n
          · subst hjn; rw [si_s, si_s]
          · rw [si_p hjn, si_p hjn]; exact hco j (by omega)
        · exact hA.fr (fun b => (si_o (by decide) _).trans (si_o (by decide) _)) fun b hb => (si_p (by omega) _).trans (si_o (by decide) _)
        · refine ⟨fun j hj => ?_, ?_⟩
          · rw [si_o (by decide), si_o (by decide), si_o (by decide), si_o (by decide)]; exact hT.1 j hj
          · rw [si_o (by decide), si_o (by decide), si_p (by decide), si_o (by decide)]; exact hT.2
        · refine (hN c hc').fr (fun a b z1 z2 => (si_o (by omega) _).trans (si_o (by omega) _)) (fun a b z => ?_) ?_
          · have : 81 ≤ a := by rcases z with z | z | z <;> omega
            exact (si_o (by omega) _).trans (si_o (by omega) _)
          · rw [si_o (by decide), si_o (by decide), si_o (by decide), si_o (by decide)]; exact hT.1 6 (by omega)
        · refine (hF c hc').fr (fun a b z1 z2 => (si_o (by omega) _).trans (si_o (by omega) _)) (fun a b z => ?_) ?_ ?_
          · have : 99 ≤ a := by rcases z with z | z | z | z <;> omega
            exact (si_o (by omega) _).trans (si_o (by omega) _)
          · rw [si_o (by decide), si_o (by decide), si_o (by decide), si_o (by decide)]; exact hT.1 4 (by omega)
          · rw [si_o (by decide), si_o (by decide), si_o (by decide), si_o (by decide)]; exact hT.1 5 (by omega)
        · exact hL.fr rfl (fun a b z1 z2 => (si_o (by omega) _).trans (si_o (by omega) _)) ((si_o (by decide) _).trans (si_o (by decide) _)) ((si_o (by decide) _).trans (si_o (by decide) _)) ((si_p (by decide) _).trans (si_o (by decide) _)) (fun b => (si_o (by decide) _).trans (si_o (by decide) _)) (fun b => (si_o (by decide) _).trans (si_o (by decide) _)) (fun c _ => (si_o (by decide) _).trans (si_o (by decide) _)) (fun c _ => (si_o (by decide) _).trans (si_o (by decide) _))
      · rw [show (9 : Int32) = nI 9 from rfl, n_ueq (by omega) (by omega)] at z; omega
    · show P_X9_letter i hm _
      unfold P_X9_letter
      rw [p_withinM, if_neg hw, m6]
      refine ⟨fun _ => ⟨fun z => absurd ?_ z, fun _ => ⟨rfl, hP, hA, hT, hN, hF, hL⟩⟩, fun z => absurd z (by decide)⟩
      rw [show n = 9 by omega]; rfl
