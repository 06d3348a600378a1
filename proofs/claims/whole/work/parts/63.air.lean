/-! air. -/
theorem ff_all {f : Nat → Int32} : ∀ d i, (ff f d i ≤ i + d) ∧ (ff f d i = i + d → ∀ j, i ≤ j → j < i + d → fitP j (f j)) := by
  intro d
  induction d with
  | zero => exact fun i => ⟨Nat.le_refl _, fun _ j h1 h2 => by omega⟩
  | succ d ih =>
    intro i
    rw [ff_s]
    obtain ⟨q1, q2⟩ := ih (i + 1)
    by_cases hf : fitP i (f i)
    · rw [if_pos hf]
      refine ⟨by omega, fun e j h1 h2 => ?_⟩
      by_cases z : j = i
      · rw [z]; exact hf
      · exact q2 (by omega) j (by omega) (by omega)
    · rw [if_neg hf]
      exact ⟨by omega, fun e => by omega⟩
theorem dig {x : Int32} (lo hi : Nat) {A B : Int32} (hA : A = nI lo) (hB : B = nI hi) (h : ¬ (x < A ∨ B < x)) (h1 : 48 ≤ lo) (h2 : lo < 2 ^ 20) (h3 : hi < 2 ^ 20) : ∃ n, x - 48 = nI n ∧ lo - 48 ≤ n ∧ n ≤ hi - 48 := by
  rcases wi_c lo hi hA hB (by omega) (by omega) x with z | ⟨m, ⟨m1, m2⟩, rfl, -⟩
  · exact absurd z h
  · exact ⟨m - 48, by rw [show (48 : Int32) = nI 48 from rfl, n_sub (by omega)], by omega, by omega⟩
theorem k_digit {p : Nat} {h : HP} {Q : Int32 → HP → Prop} {P : Int32} (hP : P = nI p) (h1 : h.1 1 1 = nI 7) (hp : p < 7) (hQ : Q (h.1 2 p - 48) h) : P_X5_digitAt P h Q := by
  subst hP
  unfold P_X5_digitAt P_X5_at
  rw [h1]
  refine wi_t (win_in (by omega) hp) (bz_t2 ⟨n_in (by omega) (by omega), ?_⟩)
  rw [n_cl (by omega)]
  exact hQ
theorem k_airLoop {h0 : HP} {Q : Int32 → HP → Prop} (hQ : ∀ h' : HP, h'.2 = h0.2 → (∀ d, d < 4 → h'.1 (34 + 11 * d) 1 = 0 ∧ h'.1 (34 + 11 * d) 8 = 0 ∧ h'.1 (41 + 11 * d) 2 = 0 ∧ h'.1 (41 + 11 * d + 1) 1 = 0) → (∀ a b, a < 34 → h'.1 a b = h0.1 a b) → Q (h'.1 3 1 + h'.1 3 2) h') : Lp2 (fun X_61 (i1_61 : Int32) (h_61 : HP) => ((4 ≤ i1_61) → (Q ((h_61.1 3 1) + (h_61.1 3 2)) h_61)) ∧ ((¬ 4 ≤ i1_61) → ((vp_in i1_61 4) ∧ (P_X3_vanish (34 + 11 * i1_61.toNatClampNeg) h_61 (fun (h_72 : HP) => (vp_in i1_61 4) ∧ (P_X1_vanish (41 + 11 * i1_61.toNatClampNeg) h_72 (fun (h_81 : HP) => X_61 (i1_61 + 1) h_81))))))) 0 h0 := by
  refine lpc2 fun X hX => ?_
  have key : ∀ n i (h1 : HP), i + n = 4 → h1.2 = h0.2 → (∀ d, d < i → h1.1 (34 + 11 * d) 1 = 0 ∧ h1.1 (34 + 11 * d) 8 = 0 ∧ h1.1 (41 + 11 * d) 2 = 0 ∧ h1.1 (41 + 11 * d + 1) 1 = 0) → (∀ a b, a < 34 → h1.1 a b = h0.1 a b) → X (nI i) h1 := by
    intro n
    induction n with
    | zero =>
      intro i h1 hi e1 e2 e3
      have : i = 4 := by omega
      subst this
      exact hX _ _ (bc_t (Int32.le_refl _) (hQ h1 e1 e2 e3))
    | succ n ih =>
      intro i h1 hi e1 e2 e3
      refine hX _ _ (bc_f ?_ ⟨n_in (by omega) (by omega), ?_⟩)
      · rw [show (4 : Int32) = nI 4 from rfl, n_ule (by omega) (by omega)]; omega
      rw [n_cl (by omega)]
      refine k_vanish fun h2 g1 v1 v2 f1 => ⟨n_in (by omega) (by omega), ?_⟩
      unfold P_X1_vanish P_X4_clear
      rw [nI_1]
      have F : ∀ a b, ¬ (a = 41 + 11 * i + 1 ∧ b = 1) → ¬ (a = 41 + 11 * i ∧ b = 2) → (si (si h2 (41 + 11 * i) 2 0) (41 + 11 * i + 1) 1 0).1 a b = h2.1 a b := fun a b z1 z2 => by rw [si_1, if_neg z1, si_1, if_neg z2]
      refine ih (i + 1) _ (by omega) (g1.trans e1) (fun d hd => ?_) (fun a b hab => ?_)
      · by_cases z : d = i
        · subst z
          refine ⟨?_, ?_, ?_, si_s ..⟩
          · rw [F _ _ (by omega) (by omega)]; exact v1
          · rw [F _ _ (by omega) (by omega)]; exact v2 8 (by omega) (by omega)
          · rw [si_o (by omega), si_s]
        · obtain ⟨q1, q2, q3, q4⟩ := e2 d (by omega)
          refine ⟨?_, ?_, ?_, ?_⟩
          · rw [F _ _ (by omega) (by omega), f1 _ _ (by unfold sVa; omega)]; exact q1
          · rw [F _ _ (by omega) (by omega), f1 _ _ (by unfold sVa; omega)]; exact q2
          · rw [F _ _ (by omega) (by omega), f1 _ _ (by unfold sVa; omega)]; exact q3
          · rw [F _ _ (by omega) (by omega), f1 _ _ (by unfold sVa; omega)]; exact q4
      · rw [F _ _ (by omega) (by omega), f1 _ _ (by unfold sVa; omega)]; exact e3 a b hab
  exact key 4 0 h0 rfl rfl (fun d hd => absurd hd (by omega)) (fun _ _ _ => rfl)
theorem m_airLoop2 {h0 : HP} {Q : Int32 → HP → Prop} (hQ : ∀ h' : HP, h'.2 = h0.2 → (∀ d, d < 4 → h'.1 81 d = 0 ∧ h'.1 99 d = 0 ∧ h'.1 109 d = 0) → (∀ a b, a ≠ 81 → a ≠ 99 → a ≠ 109 → h'.1 a b = h0.1 a b) → Q (h'.1 78 0 + h'.1 78 1) h') : Lp2 (fun X_122 (i1_122 : Int32) (h_122 : HP) => ((4 ≤ i1_122) → (Q ((h_122.1 78 0) + (h_122.1 78 1)) h_122)) ∧ ((¬ 4 ≤ i1_122) → ((vp_in i1_122 4) ∧ ((vp_in i1_122 4) ∧ ((vp_in i1_122 4) ∧ (X_122 (i1_122 + 1) (si (si (si h_122 81 i1_122.toNatClampNeg 0) 99 i1_122.toNatClampNeg 0) 109 i1_122.toNatClampNeg 0))))))) 0 h0 := by
  refine lpc2 fun X hX => ?_
  have key : ∀ n i (h1 : HP), i + n = 4 → h1.2 = h0.2 → (∀ d, d < i → h1.1 81 d = 0 ∧ h1.1 99 d = 0 ∧ h1.1 109 d = 0) → (∀ a b, a ≠ 81 → a ≠ 99 → a ≠ 109 → h1.1 a b = h0.1 a b) → X (nI i) h1 := by
    intro n
    induction n with
    | zero =>
      intro i h1 hi e1 e2 e3
      have : i = 4 := by omega
      subst this
      exact hX _ _ (bc_t (Int32.le_refl _) (hQ h1 e1 e2 e3))
    | succ n ih =>
      intro i h1 hi e1 e2 e3
      have hv : vp_in (nI i) 4 := n_in (by omega) (by omega)
      refine hX _ _ (bc_f ?_ ⟨hv, hv, hv, ?_⟩)
      · rw [show (4 : Int32) = nI 4 from rfl, n_ule (by omega) (by omega)]; omega
      rw [n_cl (by omega), nI_1]
      refine ih (i + 1) _ (by omega) e1 (fun d hd => ?_) (fun a b h81 h99 h109 => ?_)
      · by_cases z : d = i
        · subst z
          refine ⟨?_, ?_, si_s ..⟩
          · rw [si_o (by decide), si_o (by decide), si_s]
          · rw [si_o (by decide), si_s]
        · obtain ⟨q1, q2, q3⟩ := e2 d (by omega)
          refine ⟨?_, ?_, ?_⟩
          · rw [si_o (by decide), si_o (by decide), si_p z]; exact q1
          · rw [si_o (by decide), si_p z, si_o (by decide)]; exact q2
          · rw [si_p z, si_o (by decide), si_o (by decide)]; exact q3
      · rw [si_o h109, si_o h99, si_o h81]; exact e3 a b h81 h99 h109
  exact key 4 0 h0 rfl rfl (fun d hd => absurd hd (by omega)) (fun _ _ _ _ _ => rfl)
theorem m_airLoop {h0 : HP} {Q : HP → Prop} (hQ : ∀ h' : HP, h'.2 = h0.2 → (∀ j, j < 7 → h'.1 80 j = 0) → (∀ a b, a ≠ 80 → h'.1 a b = h0.1 a b) → Q h') : Lp2 (fun X_101 (i1_101 : Int32) (h_101 : HP) => ((7 ≤ i1_101) → (Q h_101)) ∧ ((¬ 7 ≤ i1_101) → ((vp_in i1_101 7) ∧ (X_101 (i1_101 + 1) (si h_101 80 i1_101.toNatClampNeg 0))))) 0 h0 := by
  refine lpc2 fun X hX => ?_
  have key : ∀ n i (h1 : HP), i + n = 7 → h1.2 = h0.2 → (∀ d, d < i → h1.1 80 d = 0) → (∀ a b, a ≠ 80 → h1.1 a b = h0.1 a b) → X (nI i) h1 := by
    intro n
    induction n with
    | zero =>
      intro i h1 hi e1 e2 e3
      have : i = 7 := by omega
      subst this
      exact hX _ _ (bc_t (Int32.le_refl _) (hQ h1 e1 e2 e3))
    | succ n ih =>
      intro i h1 hi e1 e2 e3
      have hv : vp_in (nI i) 7 := n_in (by omega) (by omega)
      refine hX _ _ (bc_f ?_ ⟨hv, ?_⟩)
      · rw [show (7 : Int32) = nI 7 from rfl, n_ule (by omega) (by omega)]; omega
      rw [n_cl (by omega), nI_1]
      refine ih (i + 1) _ (by omega) e1 (fun d hd => ?_) (fun a b h80 => ?_)
      · by_cases z : d = i
        · subst z; rw [si_s]
        · rw [si_p z]; exact e2 d (by omega)
      · rw [si_o h80]; exact e3 a b h80
  exact key 7 0 h0 rfl rfl (fun d hd => absurd hd (by omega)) (fun _ _ _ => rfl)
