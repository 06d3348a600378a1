theorem k_passLoop {S : Nat → FA} {m : Nat} {h : HP} {Q : Int32 → HP → Prop} (hm : m ≤ 60) (hS : ∀ d, d < 4 → CA h.1 d (S d)) (hQ : ∀ h' : HP, h'.2 = h.2 → (∀ d, d < 4 → CA h'.1 d (psN m S d)) → h'.1 3 5 = h.1 3 5 + nI m → (∀ a b, oPs a b → ¬ (a = 3 ∧ b = 5) → h'.1 a b = h.1 a b) → Q (h'.1 3 5) h') : Lp2 (fun X_28 (i2_28 : Int32) (h_28 : HP) => ((nI m ≤ i2_28) → (Q (h_28.1 3 5) h_28)) ∧ ((¬ nI m ≤ i2_28) → (Lp2 (fun X_48 (i3_48 : Int32) (h_48 : HP) => ((4 ≤ i3_48) → (X_28 (i2_28 + 1) h_48)) ∧ ((¬ 4 ≤ i3_48) → ((vp_in i3_48 4) ∧ (P_X1_tick (41 + 11 * i3_48.toNatClampNeg) h_48 (fun (h_59 : HP) => X_48 (i3_48 + 1) h_59))))) 0 (si h_28 3 5 ((h_28.1 3 5) + 1))))) 0 h := by
  refine lpc2 fun X hX => ?_
  have key : ∀ n i (h1 : HP), i + n = m → h1.2 = h.2 → (∀ d, d < 4 → CA h1.1 d (psN i S d)) → h1.1 3 5 = h.1 3 5 + nI i → (∀ a b, oPs a b → ¬ (a = 3 ∧ b = 5) → h1.1 a b = h.1 a b) → X (nI i) h1 := by
    intro n
    induction n with
    | zero =>
      intro i h1 hi e1 e2 e3 e4
      have : i = m := by omega
      subst this
      exact hX _ _ (bc_t (Int32.le_refl _) (hQ h1 e1 e2 e3 e4))
    | succ n ih =>
      intro i h1 hi e1 e2 e3 e4
      refine hX _ _ (bc_f ?_ ?_)
      · rw [n_ule (by omega) (by omega)]; omega
      rw [nI_1]
      refine k_tick4 (S := psN i S) (K := X (nI (i + 1))) (fun d hd => (e2 d hd).fr (fun a b z1 z2 => si_o (by omega) _) (si_o (by decide) _) (si_o (by decide) _)) fun h2 g1 g2 g3 => ih (i + 1) h2 (by omega) (g1.trans e1) g2 ?_ fun a b z1 z2 => ?_
      · rw [g3 3 5 ⟨fun c _ => by omega, by omega⟩, si_s, e3, Int32.add_assoc, nI_1]
      · rw [g3 a b z1, si_1, if_neg z2]; exact e4 a b z1 z2
  exact key m 0 h (by omega) rfl hS (by rw [show nI 0 = (0 : Int32) from rfl, Int32.add_zero]) fun _ _ _ _ => rfl
theorem m_passLoop {S : Nat → FA} {m : Nat} {h : HP} {Q : Int32 → HP → Prop} (hm : m ≤ 60) (hS : ∀ d, d < 4 → MA h.1 d (S d)) (hQ : ∀ h' : HP, h'.2 = h.2 → (∀ d, d < 4 → MA h'.1 d (psN m S d)) → h'.1 78 4 = h.1 78 4 + nI m → (∀ a b, oPsM a b → ¬ (a = 78 ∧ b = 4) → h'.1 a b = h.1 a b) → Q (h'.1 78 4) h') : Lp2 (fun X_25 (i2_25 : Int32) (h_25 : HP) => ((nI m ≤ i2_25) → (Q (h_25.1 78 4) h_25)) ∧ ((¬ nI m ≤ i2_25) → (Lp2 (fun X_42 (i3_42 : Int32) (h_42 : HP) => ((4 ≤ i3_42) → (X_25 (i2_25 + 1) h_42)) ∧ ((¬ 4 ≤ i3_42) → (P_X9_tick i3_42 h_42 (fun (h_49 : HP) => X_42 (i3_42 + 1) h_49)))) 0 (si h_25 78 4 ((h_25.1 78 4) + 1))))) 0 h := by
  refine lpc2 fun X hX => ?_
  have key : ∀ n i (h1 : HP), i + n = m → h1.2 = h.2 → (∀ d, d < 4 → MA h1.1 d (psN i S d)) → h1.1 78 4 = h.1 78 4 + nI i → (∀ a b, oPsM a b → ¬ (a = 78 ∧ b = 4) → h1.1 a b = h.1 a b) → X (nI i) h1 := by
    intro n
    induction n with
    | zero =>
      intro i h1 hi e1 e2 e3 e4
      have : i = m := by omega
      subst this
      exact hX _ _ (bc_t (Int32.le_refl _) (hQ h1 e1 e2 e3 e4))
    | succ n ih =>
      intro i h1 hi e1 e2 e3 e4
      refine hX _ _ (bc_f ?_ ?_)
      · rw [n_ule (by omega) (by omega)]; omega
      rw [nI_1]
      refine m_tick4 (S := psN i S) (K := X (nI (i + 1))) (fun d hd => (e2 d hd).fr (fun a b z => si_o (by have := iF_lo z; omega) _) (si_o (by decide) _) (si_o (by decide) _)) fun h2 g1 g2 g3 => ih (i + 1) h2 (by omega) (g1.trans e1) g2 ?_ fun a b z1 z2 => ?_
      · rw [g3 78 4 ⟨fun c _ => by unfold iF; omega, by omega⟩, si_s, e3, Int32.add_assoc, nI_1]
      · rw [g3 a b z1, si_1, if_neg z2]; exact e4 a b z1 z2
  exact key m 0 h (by omega) rfl hS (by rw [show nI 0 = (0 : Int32) from rfl, Int32.add_zero]) fun _ _ _ _ => rfl
theorem RF.fa {hc hm : HP} {c : Nat} (h : RF hc hm c) : ∃ a : FA, CA hc.1 c a ∧ MA hm.1 c a := by
  rcases h with ⟨os, a1, a2, a3, a4⟩ | ⟨y, a1, a2, a3⟩
  · exact ⟨(0, ((0, 0, 0, 0, 0), 0, 0, 0, 0, (fun _ => 0), os)), Or.inr ⟨rfl, a1, a3⟩, Or.inr ⟨rfl, a2, a4⟩⟩
  · exact ⟨(1, y), Or.inl ⟨rfl, a1, a2⟩, Or.inl ⟨rfl, a1, a3⟩⟩
theorem FA.rf {hc hm : HP} {c : Nat} {a : FA} (h1 : CA hc.1 c a) (h2 : MA hm.1 c a) : RF hc hm c := by
  rcases h1 with ⟨a1, ok, a2⟩ | ⟨a1, a2, a3⟩
  · rcases h2 with ⟨b1, -, b2⟩ | ⟨b1, -, -⟩
    · exact Or.inr ⟨a.2, ok, a2, b2⟩
    · rw [a1] at b1; exact absurd b1 (by decide)
  · rcases h2 with ⟨b1, -, -⟩ | ⟨b1, b2, b3⟩
    · rw [a1] at b1; exact absurd b1 (by decide)
    · exact Or.inl ⟨_, a2, b2, a3, b3⟩
theorem o_pass (i : Int32) : OpI (P_X8_pass i) (P_X9_pass i) InvW := by
  intro hc hm hI
  rcases wi_c 1 60 (A := 1) (B := 60) rfl rfl (by omega) (by omega) i with hi | ⟨m, ⟨m1, m2⟩, rfl, hi⟩
  · refine wi_f hi (bz_f1 ?_)
    exact wi_fM hi (bz_f1 ⟨rfl, hI⟩)
  refine wi_t hi (bz_t1 ?_)
  rcases air_cases hI with ⟨a1, a2⟩ | ⟨a1, on, a2, a3⟩
  · refine bc_t' a1 ?_
    exact wi_tM hi (bz_t1 (m_isAir0 a2 (bz_f1 ⟨rfl, hI⟩)))
  refine bc_f' (by rw [a1]; decide) ?_
  have HS : ∀ d, d < 4 → ∃ a : FA, CA hc.1 d a ∧ MA hm.1 d a := fun d hd => (hI.2.2.2.2.1 d hd).fa
  let S : Nat → FA := fun d => if z : d < 4 then Classical.choose (HS d z) else (0, ((0, 0, 0, 0, 0), 0, 0, 0, 0, (fun _ => 0), (0, (fun _ => 0), 0)))
  have hS : ∀ d, d < 4 → CA hc.1 d (S d) ∧ MA hm.1 d (S d) := fun d hd => by
    show CA hc.1 d (if z : d < 4 then Classical.choose (HS d z) else _) ∧ MA hm.1 d (if z : d < 4 then Classical.choose (HS d z) else _)
    rw [dif_pos hd]
    exact Classical.choose_spec (HS d hd)
  refine k_passLoop (Q := fun r hc' => P_X9_pass (nI m) hm (fun r' hm' => r = r' ∧ InvW hc' hm')) m2 (fun d hd => (hS d hd).1) fun h' e1 e2 e3 e4 => ?_
  refine wi_tM hi (bz_t1 (m_isAir1 a2 a3 (bz_t1 ?_)))
  refine m_passLoop (Q := fun r' hm' => h'.1 3 5 = r' ∧ InvW h' hm') m2 (fun d hd => (hS d hd).2) fun g' f1 f2 f3 f4 => ?_
  have hA := hI.2.1
  have hT := hI.2.2.1
  have C : ∀ a b, oPs a b → ¬ (a = 3 ∧ b = 5) → h'.1 a b = hc.1 a b := e4
  have C' : ∀ a b, a < 34 → ¬ (a = 3 ∧ b = 5) → ¬ (a = 4 ∧ b = 4) → h'.1 a b = hc.1 a b := fun a b z1 z2 z3 => C a b ⟨fun c _ => by omega, z3⟩ z2
  have M' : ∀ a b, (a < 99 ∨ 110 < a) → ¬ (a = 78 ∧ b = 4) → ¬ (a = 80 ∧ b = 4) → g'.1 a b = hm.1 a b := fun a b z1 z2 z3 => f4 a b ⟨fun c _ => by unfold iF; omega, z3⟩ z2
  have et : h'.1 3 5 = g'.1 78 4 := by rw [e3, f3, hA.1 4 (by omega)]
  refine ⟨et, hI.upd (hI.1.fr (C' _ _ (by omega) (by omega) (by omega)) (fun b => C' _ _ (by omega) (by omega) (by omega)) (M' _ _ (by omega) (by omega) (by omega)) (fun b => M' _ _ (by omega) (by omega) (by omega))) ⟨fun j hj => ?_, ?_⟩ ⟨fun j hj => ?_, ?_⟩ (fun c hc4 => Or.inr ⟨fun a b z1 z2 => C _ _ ⟨fun c _ => by omega, by omega⟩ (by omega), fun a b z => M' _ _ (by have := iN_lo z; omega) (by have := iN_lo z; omega) (by have := iN_lo z; omega)⟩) (fun c hc4 => Or.inl (FA.rf (e2 c hc4) (f2 c hc4))) ?_⟩
  · by_cases z : j = 4
    · subst z; exact et
    · rw [C' _ _ (by omega) (by omega) (by omega), M' _ _ (by omega) (by omega) (by omega)]; exact hA.1 j hj
  · rcases hA.2 with ⟨z, -⟩ | ⟨z, on', off, rt, bd, q1, q2, q3, q4, q5⟩
    · rw [a1] at z; exact absurd z (by decide)
    · exact Or.inr ⟨(C' _ _ (by omega) (by omega) (by omega)).trans a1, on', off, rt, bd, (M' _ _ (by omega) (by omega) (by omega)).trans q1, (M' _ _ (by omega) (by omega) (by omega)).trans q2, (M' _ _ (by omega) (by omega) (by omega)).trans q3, (M' _ _ (by omega) (by omega) (by omega)).trans q4, q5⟩
  · by_cases z : j = 4
    · subst z; rw [(e2 0 (by omega)).t4, (f2 0 (by omega)).t4]
    · rw [C' _ _ (by omega) (by omega) (by omega), M' _ _ (by omega) (by omega) (by omega)]; exact hT.1 j hj
  · rw [C' _ _ (by omega) (by omega) (by omega), M' _ _ (by omega) (by omega) (by omega)]; exact hT.2
  · exact hI.2.2.2.2.2.fr (by rw [e1]) (fun a b z1 z2 => C' _ _ (by omega) (by omega) (by omega)) (C' _ _ (by omega) (by omega) (by omega)) (C' _ _ (by omega) (by omega) (by omega)) (M' _ _ (by omega) (by omega) (by omega)) (fun b => M' _ _ (by omega) (by omega) (by omega)) (fun b => M' _ _ (by omega) (by omega) (by omega)) (fun d _ => M' _ _ (by omega) (by omega) (by omega)) (fun d _ => M' _ _ (by omega) (by omega) (by omega))
