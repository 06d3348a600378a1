/-! Letters under way: abstract, and what stands for them on both sides. -/
abbrev LT : Type := (Nat × Nat × Nat) × (Int32 × Int32 × Int32 × Int32 × Int32) × GF
def CLt (f : Nat → Nat → Int32) (r : Nat) (x : LT) : Prop := f r 1 = nI x.1.1 ∧ f r 5 = x.2.1.1 ∧ f r 6 = x.2.1.2.1 ∧ f r 3 = x.2.1.2.2.1 ∧ (x.1.1 = 0 → f r 2 = x.2.1.2.2.2.1 ∧ f r 4 = x.2.1.2.2.2.2) ∧ CFm f r x.1.2.1 x.1.2.2 x.2.2
def MLt (g : Nat → Nat → Int32) (i : Nat) (x : LT) : Prop := g 111 (8 * i) = nI x.1.1 ∧ g 111 (8 * i + 1) = nI x.1.2.1 ∧ g 111 (8 * i + 2) = x.2.1.1 ∧ g 111 (8 * i + 3) = x.2.1.2.1 ∧ g 111 (8 * i + 4) = x.2.1.2.2.1 ∧ (x.1.1 = 0 → g 111 (8 * i + 5) = x.2.1.2.2.2.1 ∧ g 111 (8 * i + 6) = x.2.1.2.2.2.2) ∧ MFm g i x.1.2.1 x.1.2.2 x.2.2
def LtOk (x : LT) : Prop := x.1.1 ≤ 5 ∧ x.1.2.1 < 4 ∧ x.1.2.2 ≤ 8 ∧ (∀ j, j < x.1.2.2 → (x.2.2 j).1 < 64 ∧ (x.2.2 j).2.1 ≤ 999 ∧ (x.2.2 j).2.2 ≤ 20) ∧ (x.1.1 = 0 → ∃ wd kd ho, x.2.1.2.2 = (nI wd, nI kd, nI ho) ∧ (1 ≤ wd ∧ wd ≤ 15) ∧ kd ≤ 2 ∧ 1 ≤ ho ∧ ho ≤ 20) ∧ (x.1.1 = 1 → ∃ wd, x.2.1.2.2.1 = nI wd ∧ 1 ≤ wd ∧ wd ≤ 12) ∧ (x.1.1 = 3 → ∃ nb, x.2.1.1 = nI nb ∧ nb < 64) ∧ (x.1.1 = 4 → ∃ nb bi, x.2.1.1 = nI nb ∧ nb < 64 ∧ x.2.1.2.1 = nI bi ∧ bi < 2 ^ 30)
def LCs (l : Nat → Nat) : Prop := (∀ i, i < 5 → ∃ j, j < 5 ∧ l i = 7 + 5 * j) ∧ ∀ i j, i < j → j < 5 → l i ≠ l j
def CLs (h : HP) (k : Nat) (X : Nat → LT) : Prop := k ≤ 4 ∧ h.1 5 2 = nI k ∧ LCs h.2.1 ∧ ∀ i, i < k → CLt h.1 (h.2.1 i) (X i)
def MLs (g : Nat → Nat → Int32) (k : Nat) (X : Nat → LT) : Prop := k ≤ 4 ∧ g 78 39 = nI k ∧ ∀ i, i < k → MLt g i (X i)
def rmX (p : Nat) (X : Nat → LT) : Nat → LT := fun i => if i < p then X i else X (i + 1)
def adX (k : Nat) (X : Nat → LT) (x : LT) : Nat → LT := fun i => if i = k then x else X i
theorem ty_L {r : Nat} (h : ∃ j, j < 5 ∧ r = 7 + 5 * j) : Ty gC r 2 0 := by
  obtain ⟨j, hj, rfl⟩ := h
  have : j = 0 ∨ j = 1 ∨ j = 2 ∨ j = 3 ∨ j = 4 := by omega
  rcases this with rfl | rfl | rfl | rfl | rfl <;> exact ⟨⟨by decide, by decide⟩, by decide⟩
theorem CLt.fr {f f' : Nat → Nat → Int32} {r : Nat} {x : LT} (h : CLt f r x) (h0 : ∀ a b, r ≤ a → a ≤ r + 4 → f' a b = f a b) : CLt f' r x := ⟨(h0 _ _ (by omega) (by omega)).trans h.1, (h0 _ _ (by omega) (by omega)).trans h.2.1, (h0 _ _ (by omega) (by omega)).trans h.2.2.1, (h0 _ _ (by omega) (by omega)).trans h.2.2.2.1, fun z => ⟨(h0 _ _ (by omega) (by omega)).trans (h.2.2.2.2.1 z).1, (h0 _ _ (by omega) (by omega)).trans (h.2.2.2.2.1 z).2⟩, h.2.2.2.2.2.fr h0⟩
theorem CLs.fr {h h' : HP} {k : Nat} {X : Nat → LT} (hx : CLs h k X) (h2 : h'.2.1 = h.2.1) (h0 : ∀ a b, 7 ≤ a → a ≤ 31 → h'.1 a b = h.1 a b) (h5 : h'.1 5 2 = h.1 5 2) : CLs h' k X := by
  obtain ⟨a, b, c, d⟩ := hx
  refine ⟨a, h5.trans b, by rw [h2]; exact c, fun i hi => ?_⟩
  rw [h2]
  obtain ⟨j, hj, e⟩ := c.1 i (by omega)
  exact (d i hi).fr fun a b z1 z2 => h0 a b (by omega) (by omega)
theorem MLt.fr {g g' : Nat → Nat → Int32} {i i' : Nat} {x : LT} (h : MLt g i x) (h1 : ∀ a, a < 8 → g' 111 (8 * i' + a) = g 111 (8 * i + a)) (h2 : ∀ a, a < 32 → g' 112 (32 * i' + a) = g 112 (32 * i + a)) (h8 : x.1.2.2 ≤ 8) : MLt g' i' x := by
  obtain ⟨a1, a2, a3, a4, a5, a6, a7, a8⟩ := h
  refine ⟨(h1 0 (by omega)).trans a1, (h1 1 (by omega)).trans a2, (h1 2 (by omega)).trans a3, (h1 3 (by omega)).trans a4, (h1 4 (by omega)).trans a5, fun z => ⟨(h1 5 (by omega)).trans (a6 z).1, (h1 6 (by omega)).trans (a6 z).2⟩, (h1 7 (by omega)).trans a7, fun j hj => ?_⟩
  obtain ⟨b1, b2, b3, b4⟩ := a8 j hj
  exact ⟨(h2 (4 * j) (by omega)).trans b1, (h2 (4 * j + 1) (by omega)).trans b2, (h2 (4 * j + 2) (by omega)).trans b3, (h2 (4 * j + 3) (by omega)).trans b4⟩
/-- a place, as the program's bounds see it -/
theorem win {k : Nat} (hk : k < 2 ^ 30) (i : Int32) : (i < 0 ∨ nI k - 1 < i) ∨ ∃ p, p < k ∧ i = nI p := by
  by_cases h : i < 0
  · exact Or.inl (Or.inl h)
  · obtain ⟨j, hj, rfl⟩ := n_of h
    by_cases hjk : j < k
    · exact Or.inr ⟨j, hjk, rfl⟩
    · refine Or.inl (Or.inr ?_)
      by_cases hk0 : k = 0
      · subst hk0
        have : nI 0 - 1 < 0 := by decide
        exact Int32.lt_of_lt_of_le this (Int32.not_lt.mp h)
      · rw [n_m1 (by omega), n_ult (by omega) (by omega)]; omega
theorem win_in {k p : Nat} (hk : k < 2 ^ 30) (hp : p < k) : ¬ (nI p < 0 ∨ nI k - 1 < nI p) := by
  rw [n_m1 (by omega), n0, n_ult (by omega) (by omega), n_ult (by omega) (by omega)]; omega
theorem k_has0 {k : Nat} {i : Int32} {h : HP} {Q : Int32 → HP → Prop} (h5 : h.1 5 2 = nI k) (hi : i < 0 ∨ nI k - 1 < i) (hQ : Q 0 h) : P_X6_has i h Q := by
  unfold P_X6_has
  rw [h5, p_within, if_pos hi]
  exact ⟨Or.inl rfl, hQ⟩
theorem k_has1 {k p : Nat} {h : HP} {Q : Int32 → HP → Prop} (h5 : h.1 5 2 = nI k) (hk : k ≤ 4) (hp : p < k) (hQ : Q 1 h) : P_X6_has (nI p) h Q := by
  unfold P_X6_has
  rw [h5, p_within, if_neg (win_in (by omega) hp)]
  exact ⟨Or.inr rfl, hQ⟩
theorem k_at {k p : Nat} {X : Nat → LT} {h : HP} {Q : Nat → HP → Prop} (hx : CLs h k X) (hp : p < k) (hQ : Q (h.2.1 p) h) : P_X6_at (nI p) h Q := by
  have hk := hx.1
  unfold P_X6_at
  refine k_has1 hx.2.1 hk hp ⟨fun hz => absurd hz (by decide), fun _ => ⟨n_in (by omega) (by omega), ?_, ?_⟩⟩
  · rw [n_cl (by omega)]; exact ty_L (hx.2.2.1.1 p (by omega))
  · rw [n_cl (by omega)]; exact hQ
theorem k_take {k p : Nat} {X : Nat → LT} {h : HP} {Q : Nat → HP → Prop} (hx : CLs h k X) (hp : p < k) (hQ : ∀ h' : HP, h'.2.2 = h.2.2 → CLs h' (k - 1) (rmX p X) → h'.2.1 4 = h.2.1 p → (∀ a b, a ≠ 5 → h'.1 a b = h.1 a b) → Q (h.2.1 p) h') : P_X6_take (nI p) h Q := by
  obtain ⟨hk, h5, hl, hX⟩ := hx
  unfold P_X6_take
  refine k_at ⟨hk, h5, hl, hX⟩ hp ⟨ty_L (hl.1 p (by omega)), k_has1 h5 hk hp ⟨fun hz => absurd hz (by decide), fun _ => ?_⟩⟩
  refine lpc2 fun Y hY => ?_
  have key : ∀ d n (h1 : HP), n + d = 4 → p ≤ n → h1.1 = h.1 → h1.2.2 = h.2.2 → (∀ i, h1.2.1 i = if p ≤ i ∧ i < n then h.2.1 (i + 1) else h.2.1 i) → Y (nI n) h1 := by
    intro d
    induction d with
    | zero =>
      intro n h1 hn hpn e1 e2 e3
      have : n = 4 := by omega
      subst this
      refine hY _ _ ⟨fun _ => ⟨n_in (n := 4) (by omega) (by omega), ?_⟩, fun hz => absurd (Int32.le_refl _) hz⟩
      have c4 : ((4 : Int32).toNatClampNeg) = 4 := rfl
      rw [c4]
      have e5 : (sr h1 4 (h.2.1 p)).1 5 2 = nI k := by rw [sr_1, e1]; exact h5
      rw [e5, n_m1 (by omega)]
      have r : ∀ i, (si (sr h1 4 (h.2.1 p)) 5 2 (nI (k - 1))).2.1 i = if i = 4 then h.2.1 p else if p ≤ i ∧ i < 4 then h.2.1 (i + 1) else h.2.1 i := fun i => by
        show (sr h1 4 (h.2.1 p)).2.1 i = _
        rw [sr_2, e3]
      have f1 : ∀ a b, a ≠ 5 → (si (sr h1 4 (h.2.1 p)) 5 2 (nI (k - 1))).1 a b = h.1 a b := fun a b z => by
        rw [si_o z, sr_1, e1]
      refine hQ _ e2 ⟨by omega, si_s .., ⟨fun i hi => ?_, fun i j hij hj => ?_⟩, fun i hi => ?_⟩ (by rw [r]; rfl) f1
      · rw [r]
        split
        · exact hl.1 p (by omega)
        · split
          · exact hl.1 (i + 1) (by omega)
          · exact hl.1 i hi
      · rw [r, r, if_neg (by omega)]
        by_cases h4 : j = 4
        · rw [if_pos h4]
          split
          · exact fun z => hl.2 p (i + 1) (by omega) (by omega) z.symm
          · exact hl.2 i p (by omega) (by omega)
        · rw [if_neg h4]
          split
          · rw [if_pos (by omega)]; exact hl.2 _ _ (by omega) (by omega)
          · split
            · exact hl.2 _ _ (by omega) (by omega)
            · exact hl.2 _ _ (by omega) (by omega)
      · rw [r, if_neg (by omega)]
        unfold rmX
        by_cases hip : i < p
        · rw [if_neg (by omega), if_pos hip]
          obtain ⟨j, hj, e⟩ := hl.1 i (by omega)
          exact (hX i (by omega)).fr fun a b z1 z2 => f1 a b (by omega)
        · rw [if_pos (by omega), if_neg hip]
          obtain ⟨j, hj, e⟩ := hl.1 (i + 1) (by omega)
          exact (hX (i + 1) (by omega)).fr fun a b z1 z2 => f1 a b (by omega)
    | succ d ih =>
      intro n h1 hn hpn e1 e2 e3
      refine hY _ _ ⟨fun hz => ?_, fun _ => ?_⟩
      · rw [show (4 : Int32) = nI 4 from rfl, n_ule (by omega) (by omega)] at hz; omega
      · rw [nI_1, n_cl (by omega), n_cl (by omega)]
        have q : h1.2.1 (n + 1) = h.2.1 (n + 1) := by rw [e3, if_neg (by omega)]
        refine ⟨n_in (by omega) (by omega), ?_, n_in (by omega) (by omega), ih (n + 1) _ (by omega) (by omega) e1 e2 fun i => ?_⟩
        · rw [q]; exact ty_L (hl.1 _ (by omega))
        · rw [sr_2, q]
          by_cases hin : i = n
          · subst hin
            rw [if_pos rfl, if_pos ⟨hpn, by omega⟩]
          · rw [if_neg hin, e3]
            by_cases h2 : p ≤ i ∧ i < n
            · rw [if_pos h2, if_pos ⟨h2.1, by omega⟩]
            · rw [if_neg h2, if_neg (fun z => h2 ⟨z.1, by omega⟩)]
  exact key (4 - p) p h (by omega) (Nat.le_refl _) rfl rfl fun i => by rw [if_neg (by omega)]
