/-! pass: the far ends of all classes, tick by tick. -/
abbrev FA : Type := Nat × FYS
def CA (f : Nat → Nat → Int32) (c : Nat) (a : FA) : Prop := (a.1 = 1 ∧ YOk a.2 ∧ CFar f (41 + 11 * c) a.2) ∨ (a.1 = 0 ∧ f (41 + 11 * c) 2 = 0 ∧ CO f (41 + 11 * c) a.2.2.2.2.2.2.2)
def MA (g : Nat → Nat → Int32) (c : Nat) (a : FA) : Prop := (a.1 = 1 ∧ YOk a.2 ∧ MFar g c a.2) ∨ (a.1 = 0 ∧ g 99 c = 0 ∧ MO g c a.2.2.2.2.2.2.2)
def rnY (t4 : Int32) (y : FYS) : FYS := (y.1, y.2.1, y.2.2.1, y.2.2.2.1, y.2.2.2.2.1, y.2.2.2.2.2.1, (y.2.2.2.2.2.2.1, y.2.2.2.2.2.2.2.1, t4))
theorem CA.rn {f f' : Nat → Nat → Int32} {d : Nat} {a : FA} (h : CA f d a) (h1 : ∀ a b, 41 + 11 * d ≤ a → a ≤ 44 + 11 * d → f' a b = f a b) (h5 : f' 4 5 = f 4 5) : CA f' d (a.1, rnY (f' 4 4) a.2) := by
  have f1 : ∀ b, f' (41 + 11 * d) b = f (41 + 11 * d) b := fun b => h1 _ b (Nat.le_refl _) (by omega)
  have co : ∀ os : OS, CO f (41 + 11 * d) os → CO f' (41 + 11 * d) (os.1, os.2.1, f' 4 4) := fun os z => ⟨z.1, (h1 _ _ (by omega) (by omega)).trans z.2.1, fun i hi => (h1 _ _ (by omega) (by omega)).trans (z.2.2.1 i hi), rfl⟩
  rcases h with ⟨a1, ok, a2⟩ | ⟨a1, a2, a3⟩
  · obtain ⟨b1, b2, b3, b4, b5, b6, b7, b8, b9, b10, b11, b12, b13⟩ := a2
    exact Or.inl ⟨a1, ok, (f1 _).trans b1, (f1 _).trans b2, (f1 _).trans b3, (f1 _).trans b4, (f1 _).trans b5, (f1 _).trans b6, (f1 _).trans b7, h5.trans b8, b9, (f1 _).trans b10, (f1 _).trans b11, fun k hk => (h1 _ _ (by omega) (by omega)).trans (b12 k hk), co _ b13⟩
  · exact Or.inr ⟨a1, (f1 _).trans a2, co _ a3⟩
theorem MA.rn {g g' : Nat → Nat → Int32} {d : Nat} {a : FA} (h : MA g d a) (h1 : ∀ a b, iF d a b → g' a b = g a b) (h5 : g' 80 5 = g 80 5) : MA g' d (a.1, rnY (g' 80 4) a.2) := by
  have g1 : ∀ a, 99 ≤ a → a ≤ 107 → g' a d = g a d := fun a z1 z2 => h1 a d (Or.inl ⟨z1, z2, rfl⟩)
  have mo : ∀ os : OS, MO g d os → MO g' d (os.1, os.2.1, g' 80 4) := fun os z => by
    have := z.1
    exact ⟨z.1, (h1 _ _ (Or.inr (Or.inr (Or.inl ⟨rfl, rfl⟩)))).trans z.2.1, fun i hi => (h1 _ _ (Or.inr (Or.inr (Or.inr ⟨rfl, by omega, by have : i < os.1 := hi; omega⟩)))).trans (z.2.2.1 i hi), rfl⟩
  rcases h with ⟨a1, ok, a2⟩ | ⟨a1, a2, a3⟩
  · obtain ⟨c1, c2, c3, c4, c5, c6, c7, c8, c9, c10, c11, c12, c13⟩ := a2
    exact Or.inl ⟨a1, ok, (g1 _ (by omega) (by omega)).trans c1, (g1 _ (by omega) (by omega)).trans c2, (g1 _ (by omega) (by omega)).trans c3, (g1 _ (by omega) (by omega)).trans c4, (g1 _ (by omega) (by omega)).trans c5, (g1 _ (by omega) (by omega)).trans c6, (g1 _ (by omega) (by omega)).trans c7, h5.trans c8, c9, (g1 _ (by omega) (by omega)).trans c10, (g1 _ (by omega) (by omega)).trans c11, fun k hk => (h1 _ _ (Or.inr (Or.inl ⟨rfl, by omega, by omega⟩))).trans (c12 k hk), mo _ c13⟩
  · exact Or.inr ⟨a1, (g1 _ (by omega) (by omega)).trans a2, mo _ a3⟩
theorem CA.t4 {f : Nat → Nat → Int32} {d : Nat} {a : FA} (h : CA f d a) : f 4 4 = a.2.2.2.2.2.2.2.2.2 := by
  rcases h with ⟨a1, ok, a2⟩ | ⟨a1, a2, a3⟩
  · exact a2.2.2.2.2.2.2.2.2.2.2.2.2.2.2.2
  · exact a3.2.2.2
theorem MA.t4 {g : Nat → Nat → Int32} {d : Nat} {a : FA} (h : MA g d a) : g 80 4 = a.2.2.2.2.2.2.2.2.2 := by
  rcases h with ⟨a1, ok, a2⟩ | ⟨a1, a2, a3⟩
  · exact a2.2.2.2.2.2.2.2.2.2.2.2.2.2.2.2
  · exact a3.2.2.2
theorem CA.fr {f f' : Nat → Nat → Int32} {d : Nat} {a : FA} (h : CA f d a) (h1 : ∀ a b, 41 + 11 * d ≤ a → a ≤ 44 + 11 * d → f' a b = f a b) (h4 : f' 4 4 = f 4 4) (h5 : f' 4 5 = f 4 5) : CA f' d a := by
  have := h.rn h1 h5
  rw [h4, h.t4] at this
  exact this
theorem MA.fr {g g' : Nat → Nat → Int32} {d : Nat} {a : FA} (h : MA g d a) (h1 : ∀ a b, iF d a b → g' a b = g a b) (h4 : g' 80 4 = g 80 4) (h5 : g' 80 5 = g 80 5) : MA g' d a := by
  have := h.rn h1 h5
  rw [h4, h.t4] at this
  exact this
theorem tickA_5 (y : FYS) : (tickA y).2.2.1 = y.2.2.1 := by
  unfold tickA
  split
  · split <;> rfl
  · rfl
def tkS (c : Nat) (S : Nat → FA) : Nat → FA := if (S c).1 = 1 then (fun d => if d = c then (1, tickA (S c).2) else ((S d).1, rnY (tickA (S c).2).2.2.2.2.2.2.2.2 (S d).2)) else S
theorem k_tickS {c : Nat} {S : Nat → FA} {h : HP} {Q : HP → Prop} (hc4 : c < 4) (hS : ∀ d, d < 4 → CA h.1 d (S d)) (hQ : ∀ h' : HP, h'.2 = h.2 → (∀ d, d < 4 → CA h'.1 d (tkS c S d)) → (∀ a b, ¬ (41 + 11 * c ≤ a ∧ a ≤ 44 + 11 * c) → ¬ (a = 4 ∧ b = 4) → h'.1 a b = h.1 a b) → Q h') : P_X1_tick (41 + 11 * c) h Q := by
  rcases hS c hc4 with ⟨a1, ok, a2⟩ | ⟨a1, a2, a3⟩
  · refine k_tick (by omega) a2 ok fun h' e1 e2 e3 => ?_
    have t5 : h'.1 4 5 = h.1 4 5 := by
      rw [e2.2.2.2.2.2.2.2.1, tickA_5]; exact a2.2.2.2.2.2.2.2.1.symm
    have t4 : h'.1 4 4 = (tickA (S c).2).2.2.2.2.2.2.2.2 := e2.2.2.2.2.2.2.2.2.2.2.2.2.2.2.2
    have F : ∀ a b, ¬ (41 + 11 * c ≤ a ∧ a ≤ 44 + 11 * c) → ¬ (a = 4 ∧ b = 4) → h'.1 a b = h.1 a b := by
      intro a b z1 z2
      by_cases z3 : a = 4 ∧ b = 5
      · rw [z3.1, z3.2]; exact t5
      · exact e3 a b (by unfold sFar; omega)
    refine hQ h' e1 (fun d hd => ?_) F
    unfold tkS
    rw [if_pos a1]
    by_cases z : d = c
    · subst z
      simp only [if_pos]
      exact Or.inl ⟨rfl, tick_ok ok, e2⟩
    · simp only [if_neg z]
      rw [← t4]
      exact (hS d hd).rn (fun a b z1 z2 => F a b (by omega) (by omega)) t5
  · refine k_tick0 a2 (hQ h rfl ?_ fun _ _ _ _ => rfl)
    unfold tkS
    rw [if_neg (by rw [a1]; decide)]
    exact hS
theorem m_tickS {c : Nat} {S : Nat → FA} {h : HP} {Q : HP → Prop} (hc4 : c < 4) (hS : ∀ d, d < 4 → MA h.1 d (S d)) (hQ : ∀ h' : HP, h'.2 = h.2 → (∀ d, d < 4 → MA h'.1 d (tkS c S d)) → (∀ a b, ¬ iF c a b → ¬ (a = 80 ∧ b = 4) → h'.1 a b = h.1 a b) → Q h') : P_X9_tick (nI c) h Q := by
  rcases hS c hc4 with ⟨a1, ok, a2⟩ | ⟨a1, a2, a3⟩
  · refine m_tick hc4 a2 ok fun h' e1 e2 e3 => ?_
    have t5 : h'.1 80 5 = h.1 80 5 := by
      rw [e2.2.2.2.2.2.2.2.1, tickA_5]; exact a2.2.2.2.2.2.2.2.1.symm
    have t4 : h'.1 80 4 = (tickA (S c).2).2.2.2.2.2.2.2.2 := e2.2.2.2.2.2.2.2.2.2.2.2.2.2.2.2
    have F : ∀ a b, ¬ iF c a b → ¬ (a = 80 ∧ b = 4) → h'.1 a b = h.1 a b := by
      intro a b z1 z2
      by_cases z3 : a = 80 ∧ b = 5
      · rw [z3.1, z3.2]; exact t5
      · exact e3 a b (by unfold sFarM; unfold iF at z1; omega)
    refine hQ h' e1 (fun d hd => ?_) F
    unfold tkS
    rw [if_pos a1]
    by_cases z : d = c
    · subst z
      simp only [if_pos]
      exact Or.inl ⟨rfl, tick_ok ok, e2⟩
    · simp only [if_neg z]
      rw [← t4]
      exact (hS d hd).rn (fun a b z1 => F a b (by unfold iF at z1 ⊢; omega) (by have := iF_lo z1; omega)) t5
  · refine m_tick0 hc4 a2 (hQ h rfl ?_ fun _ _ _ _ => rfl)
    unfold tkS
    rw [if_neg (by rw [a1]; decide)]
    exact hS
def tkN : Nat → (Nat → FA) → Nat → FA
  | 0, S => S
  | n + 1, S => tkS n (tkN n S)
def psN : Nat → (Nat → FA) → Nat → FA
  | 0, S => S
  | n + 1, S => tkN 4 (psN n S)
/-- what passing leaves: nothing but the far ends, and how many values were released -/
def oPs (a b : Nat) : Prop := (∀ c, c < 4 → ¬ (41 + 11 * c ≤ a ∧ a ≤ 44 + 11 * c)) ∧ ¬ (a = 4 ∧ b = 4)
def oPsM (a b : Nat) : Prop := (∀ c, c < 4 → ¬ iF c a b) ∧ ¬ (a = 80 ∧ b = 4)
theorem k_tick4 {S : Nat → FA} {h : HP} {K : HP → Prop} (hS : ∀ d, d < 4 → CA h.1 d (S d)) (hK : ∀ h' : HP, h'.2 = h.2 → (∀ d, d < 4 → CA h'.1 d (tkN 4 S d)) → (∀ a b, oPs a b → h'.1 a b = h.1 a b) → K h') : Lp2 (fun X_48 (i3_48 : Int32) (h_48 : HP) => ((4 ≤ i3_48) → (K h_48)) ∧ ((¬ 4 ≤ i3_48) → ((vp_in i3_48 4) ∧ (P_X1_tick (41 + 11 * i3_48.toNatClampNeg) h_48 (fun (h_59 : HP) => X_48 (i3_48 + 1) h_59))))) 0 h := by
  refine lpc2 fun X hX => ?_
  have key : ∀ n i (h1 : HP), i + n = 4 → h1.2 = h.2 → (∀ d, d < 4 → CA h1.1 d (tkN i S d)) → (∀ a b, oPs a b → h1.1 a b = h.1 a b) → X (nI i) h1 := by
    intro n
    induction n with
    | zero =>
      intro i h1 hi e1 e2 e3
      have : i = 4 := by omega
      subst this
      exact hX _ _ (bc_t (Int32.le_refl _) (hK h1 e1 e2 e3))
    | succ n ih =>
      intro i h1 hi e1 e2 e3
      refine hX _ _ (bc_f ?_ ⟨n_in (by omega) (by omega), ?_⟩)
      · rw [show (4 : Int32) = nI 4 from rfl, n_ule (by omega) (by omega)]; omega
      rw [n_cl (by omega), nI_1]
      exact k_tickS (by omega) e2 fun h2 g1 g2 g3 => ih (i + 1) h2 (by omega) (g1.trans e1) g2 fun a b z => (g3 a b (z.1 i (by omega)) z.2).trans (e3 a b z)
  exact key 4 0 h rfl rfl hS fun _ _ _ => rfl
theorem m_tick4 {S : Nat → FA} {h : HP} {K : HP → Prop} (hS : ∀ d, d < 4 → MA h.1 d (S d)) (hK : ∀ h' : HP, h'.2 = h.2 → (∀ d, d < 4 → MA h'.1 d (tkN 4 S d)) → (∀ a b, oPsM a b → h'.1 a b = h.1 a b) → K h') : Lp2 (fun X_42 (i3_42 : Int32) (h_42 : HP) => ((4 ≤ i3_42) → (K h_42)) ∧ ((¬ 4 ≤ i3_42) → (P_X9_tick i3_42 h_42 (fun (h_49 : HP) => X_42 (i3_42 + 1) h_49)))) 0 h := by
  refine lpc2 fun X hX => ?_
  have key : ∀ n i (h1 : HP), i + n = 4 → h1.2 = h.2 → (∀ d, d < 4 → MA h1.1 d (tkN i S d)) → (∀ a b, oPsM a b → h1.1 a b = h.1 a b) → X (nI i) h1 := by
    intro n
    induction n with
    | zero =>
      intro i h1 hi e1 e2 e3
      have : i = 4 := by omega
      subst this
      exact hX _ _ (bc_t (Int32.le_refl _) (hK h1 e1 e2 e3))
    | succ n ih =>
      intro i h1 hi e1 e2 e3
      refine hX _ _ (bc_f ?_ ?_)
      · rw [show (4 : Int32) = nI 4 from rfl, n_ule (by omega) (by omega)]; omega
      rw [nI_1]
      exact m_tickS (by omega) e2 fun h2 g1 g2 g3 => ih (i + 1) h2 (by omega) (g1.trans e1) g2 fun a b z => (g3 a b (z.1 i (by omega)) z.2).trans (e3 a b z)
  exact key 4 0 h rfl rfl hS fun _ _ _ => rfl
