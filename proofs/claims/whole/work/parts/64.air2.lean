theorem o_air : OpI P_X8_air P_X9_air InvW := by
  intro hc hm hI
  obtain ⟨hP, hA, hT, hN, hF, hL⟩ := id hI
  obtain ⟨n, hn, c1, m6, hco⟩ := hP
  by_cases h7 : n = 7
  · subst h7
    have eF : ff (hc.1 2) 7 0 = ff (hm.1 79) 7 0 := ff_cg 7 0 fun j _ h2 => hco j (by omega)
    by_cases hff : ff (hc.1 2) 7 0 = 7
    · refine bc_t' c1 (k_firstFault hn c1 (bc_t' (by rw [hff, c1]) (bz_t1 ?_)))
      refine k_digit (p := 0) rfl ((si_o (by decide) _).trans c1) (by omega) ?_
      refine k_digit (p := 2) rfl ((si_o (by decide) _).trans ((si_o (by decide) _).trans c1)) (by omega) ?_
      refine k_digit (p := 4) rfl ((si_o (by decide) _).trans ((si_o (by decide) _).trans ((si_o (by decide) _).trans c1))) (by omega) ?_
      refine k_digit (p := 6) rfl ((si_o (by decide) _).trans ((si_o (by decide) _).trans ((si_o (by decide) _).trans ((si_o (by decide) _).trans c1)))) (by omega) ?_
      show P_X5_wipe _ _
      unfold P_X5_wipe
      show P_X7_clear _ _
      unfold P_X7_clear
      show P_X6_clear _ _
      unfold P_X6_clear
      refine k_airLoop (Q := fun r hc' => P_X9_air hm (fun r' hm' => r = r' ∧ InvW hc' hm')) fun h' e1 e2 e3 => ?_
      have x30 : h'.1 3 0 = 1 := by rw [e3 _ _ (by omega)]; simp [si_1]
      have x31 : h'.1 3 1 = hc.1 2 0 - 48 := by rw [e3 _ _ (by omega)]; simp [si_1]
      have x32 : h'.1 3 2 = hc.1 2 2 - 48 := by rw [e3 _ _ (by omega)]; simp [si_1]
      have x33 : h'.1 3 3 = hc.1 2 4 - 48 := by rw [e3 _ _ (by omega)]; simp [si_1]
      have x34 : h'.1 3 4 = hc.1 2 6 - 48 := by rw [e3 _ _ (by omega)]; simp [si_1]
      have x35 : h'.1 3 5 = 0 := by rw [e3 _ _ (by omega)]; simp [si_1]
      have x11 : h'.1 1 1 = 0 := by rw [e3 _ _ (by omega)]; simp [si_1]
      have x4 : ∀ j, j < 7 → h'.1 4 j = 0 := by
        intro j hj
        rw [e3 _ _ (by omega)]
        have : j = 0 ∨ j = 1 ∨ j = 2 ∨ j = 3 ∨ j = 4 ∨ j = 5 ∨ j = 6 := by omega
        rcases this with rfl | rfl | rfl | rfl | rfl | rfl | rfl <;> simp [si_1]
      have x47 : h'.1 4 7 = hc.1 4 7 + 1 := by rw [e3 _ _ (by omega)]; simp [si_1]
      have x52 : h'.1 5 2 = 0 := by rw [e3 _ _ (by omega)]; simp [si_1]
      have x2 : h'.2.1 = hc.2.1 := by rw [e1]; rfl
      clear e3
      refine bc_t' m6 (m_faultNow hn m6 (bc_t (by rw [← eF, hff]; rfl) ?_))
      refine m_airLoop fun g1 f1 f2 f3 => ?_
      refine m_airLoop2 (Q := fun r' hm' => h'.1 3 1 + h'.1 3 2 = r' ∧ InvW h' hm') fun g2 f4 f5 f6 => ?_
      have y0 : g2.1 78 0 = hm.1 79 0 - 48 := by rw [f6 _ _ (by omega) (by omega) (by omega), f3 _ _ (by omega)]; simp [si_1]
      have y1 : g2.1 78 1 = hm.1 79 2 - 48 := by rw [f6 _ _ (by omega) (by omega) (by omega), f3 _ _ (by omega)]; simp [si_1]
      have y2 : g2.1 78 2 = hm.1 79 4 - 48 := by rw [f6 _ _ (by omega) (by omega) (by omega), f3 _ _ (by omega)]; simp [si_1]
      have y3 : g2.1 78 3 = hm.1 79 6 - 48 := by rw [f6 _ _ (by omega) (by omega) (by omega), f3 _ _ (by omega)]; simp [si_1]
      have y4 : g2.1 78 4 = 0 := by rw [f6 _ _ (by omega) (by omega) (by omega), f3 _ _ (by omega)]; simp [si_1]
      have y5 : g2.1 78 5 = hm.1 78 5 + 1 := by rw [f6 _ _ (by omega) (by omega) (by omega), f3 _ _ (by omega)]; simp [si_1]
      have y6 : g2.1 78 6 = 0 := by rw [f6 _ _ (by omega) (by omega) (by omega), f3 _ _ (by omega)]; simp [si_1]
      have y39 : g2.1 78 39 = 0 := by rw [f6 _ _ (by omega) (by omega) (by omega), f3 _ _ (by omega)]; simp [si_1]
      have y8 : ∀ j, j < 7 → g2.1 80 j = 0 := fun j hj => (f6 _ _ (by omega) (by omega) (by omega)).trans (f2 j hj)
      clear f6 f3
      have E : ∀ j, j < 5 → h'.1 3 (j + 1) = g2.1 78 j := by
        intro j hj
        have : j = 0 ∨ j = 1 ∨ j = 2 ∨ j = 3 ∨ j = 4 := by omega
        rcases this with rfl | rfl | rfl | rfl | rfl
        · rw [x31, y0, hco 0 (by omega)]
        · rw [x32, y1, hco 2 (by omega)]
        · rw [x33, y2, hco 4 (by omega)]
        · rw [x34, y3, hco 6 (by omega)]
        · rw [x35, y4]
      have FT := (ff_all (f := hc.1 2) 7 0).2 hff
      obtain ⟨on, d1, d2, d3⟩ := dig 49 57 (A := lowI 0) (B := highI 0) rfl rfl (FT 0 (by omega) (by omega)).2 (by omega) (by omega) (by omega)
      obtain ⟨off, d4, d5, d6⟩ := dig 48 57 (A := lowI 2) (B := highI 2) rfl rfl (FT 2 (by omega) (by omega)).2 (by omega) (by omega) (by omega)
      obtain ⟨rt, d7, d8, d9⟩ := dig 49 57 (A := lowI 4) (B := highI 4) rfl rfl (FT 4 (by omega) (by omega)).2 (by omega) (by omega) (by omega)
      obtain ⟨bd, d10, d11, d12⟩ := dig 49 56 (A := lowI 6) (B := highI 6) rfl rfl (FT 6 (by omega) (by omega)).2 (by omega) (by omega) (by omega)
      refine ⟨?_, ⟨0, by omega, x11, y6, fun i hi => absurd hi (by omega)⟩, ⟨E, Or.inr ⟨x30, on, off, rt, bd, ?_, ?_, ?_, ?_, ⟨by omega, by omega⟩, by omega, by omega, by omega, by omega⟩⟩, ⟨fun j hj => by rw [x4 j hj, y8 j hj], by rw [x47, y5, hT.2]⟩, fun d hd => Or.inl ⟨(e2 d hd).1, (e2 d hd).2.1, (f5 d hd).1⟩, fun d hd => Or.inl ⟨(0, (fun _ => 0), 0), (e2 d hd).2.2.1, (f5 d hd).2.1, ⟨Nat.zero_le _, (e2 d hd).2.2.2, fun i hi => absurd hi (Nat.not_lt_zero i), x4 4 (by omega)⟩, ⟨Nat.zero_le _, (f5 d hd).2.2, fun i hi => absurd hi (Nat.not_lt_zero i), y8 4 (by omega)⟩⟩, ?_⟩
      · rw [show h'.1 3 1 = g2.1 78 0 from E 0 (by omega), show h'.1 3 2 = g2.1 78 1 from E 1 (by omega)]
      · rw [y0, ← hco 0 (by omega)]; exact d1
      · rw [y1, ← hco 2 (by omega)]; exact d4
      · rw [y2, ← hco 4 (by omega)]; exact d7
      · rw [y3, ← hco 6 (by omega)]; exact d10
      · obtain ⟨k, X, l1, l2, l3, l4⟩ := hL
        refine ⟨0, X, ⟨by omega, x52, by rw [x2]; exact l1.2.2.1, fun i hi => absurd hi (by omega)⟩, ⟨by omega, y39, fun i hi => absurd hi (by omega)⟩, ⟨fun i hi => absurd hi (by omega), fun i j _ hi => absurd hi (by omega), fun i hi => absurd hi (by omega)⟩, fun _ => rfl⟩
    · have h7' := (ff_all (f := hc.1 2) 7 0).1
      refine bc_t' c1 (k_firstFault hn c1 (bc_f' ?_ (bz_f1 ?_)))
      · rw [c1, n_ueq (by omega) (by omega)]; exact hff
      · refine bc_t' m6 (m_faultNow hn m6 (bc_f ?_ ⟨rfl, hI⟩))
        rw [← eF, show (7 : Int32) = nI 7 from rfl, n_ueq (by omega) (by omega)]; exact hff
  · have e7 : ¬ nI n = 7 := by rw [show (7 : Int32) = nI 7 from rfl, n_ueq (by omega) (by omega)]; exact h7
    refine bc_f' (by rw [c1]; exact e7) (bz_f1 ?_)
    exact bc_f' (by rw [m6]; exact e7) ⟨rfl, hI⟩
