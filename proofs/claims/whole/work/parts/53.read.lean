/-! Blank, fault, about, count. -/
def FrN (hc hm hc' hm' : HP) (c : Nat) : Prop := (∀ a b, 34 + 11 * c ≤ a → a ≤ 40 + 11 * c → hc'.1 a b = hc.1 a b) ∧ ∀ a b, iN c a b → hm'.1 a b = hm.1 a b
def FrF (hc hm hc' hm' : HP) (c : Nat) : Prop := (∀ a b, 41 + 11 * c ≤ a → a ≤ 44 + 11 * c → hc'.1 a b = hc.1 a b) ∧ ∀ a b, iF c a b → hm'.1 a b = hm.1 a b
theorem InvW.upd {hc hm hc' hm' : HP} (h : InvW hc hm) (hP : RPg hc' hm') (hA : RAir hc' hm') (hT : RTal hc' hm') (hN : ∀ c, c < 4 → RN hc' hm' c ∨ FrN hc hm hc' hm' c) (hF : ∀ c, c < 4 → RF hc' hm' c ∨ FrF hc hm hc' hm' c) (hL : RLt hc' hm') : InvW hc' hm' :=
  ⟨hP, hA, hT, fun c hc4 => (hN c hc4).elim id fun z => (h.2.2.2.1 c hc4).fr z.1 z.2 (hT.1 6 (by omega)), fun c hc4 => (hF c hc4).elim id fun z => (h.2.2.2.2.1 c hc4).fr z.1 z.2 (hT.1 4 (by omega)) (hT.1 5 (by omega)), hL⟩
theorem iN_lo {c a b : Nat} (h : iN c a b) : 81 ≤ a ∧ a ≤ 98 := by rcases h with z | z | z <;> omega
theorem iF_lo {c a b : Nat} (h : iF c a b) : 99 ≤ a ∧ a ≤ 110 := by rcases h with z | z | z | z <;> omega
theorem o_blank : OpI P_X8_blank P_X9_blank InvW := by
  intro hc hm hI
  obtain ⟨hP, hA, hT, hN, hF, hL⟩ := id hI
  obtain ⟨n, hn, c1, m6, hco⟩ := hP
  unfold P_X8_blank P_X5_wipe
  show P_X9_blank hm _
  unfold P_X9_blank
  refine ⟨c1.trans m6.symm, hI.upd ⟨0, by omega, si_s .., si_s .., fun i hi => absurd hi (by omega)⟩ (hA.fr (fun b => si_o (by decide) _) fun b hb => si_p (by omega) _) ⟨fun j hj => ?_, ?_⟩ (fun c _ => Or.inr ⟨fun a b z1 z2 => si_o (by omega) _, fun a b z => si_o (by have := iN_lo z; omega) _⟩) (fun c _ => Or.inr ⟨fun a b z1 z2 => si_o (by omega) _, fun a b z => si_o (by have := iF_lo z; omega) _⟩) ?_⟩
  · rw [si_o (by decide), si_o (by decide)]; exact hT.1 j hj
  · rw [si_o (by decide), si_p (by decide)]; exact hT.2
  · exact hL.fr rfl (fun a b z1 z2 => si_o (by omega) _) (si_o (by decide) _) (si_o (by decide) _) (si_p (by decide) _) (fun b => si_o (by decide) _) (fun b => si_o (by decide) _) (fun c _ => si_o (by decide) _) (fun c _ => si_o (by decide) _)
abbrev fitP (i : Nat) (x : Int32) : Prop := i < 7 ∧ ¬ (x < lowI i ∨ highI i < x)
def ff (f : Nat → Int32) : Nat → Nat → Nat
  | 0, i => i
  | d + 1, i => if fitP i (f i) then ff f d (i + 1) else i
theorem ff_s (f : Nat → Int32) (d i : Nat) : ff f (d + 1) i = if fitP i (f i) then ff f d (i + 1) else i := rfl
theorem k_firstFault {n : Nat} {h : HP} {Q : Int32 → HP → Prop} (hn : n ≤ 9) (c1 : h.1 1 1 = nI n) (hQ : Q (nI (ff (h.1 2) n 0)) h) : P_X5_firstFault h Q := by
  unfold P_X5_firstFault
  refine lpc2 fun X hX => ?_
  have key : ∀ d i, i + d = n → ff (h.1 2) d i = ff (h.1 2) n 0 → X (nI i) h := by
    intro d
    induction d with
    | zero =>
      intro i hi e
      have : i = n := by omega
      subst this
      refine hX _ _ ⟨fun _ => ?_, fun z => absurd ?_ z⟩
      · rw [c1]; rw [← e] at hQ; exact hQ
      · rw [c1]; exact Int32.le_refl _
    | succ d ih =>
      intro i hi e
      refine hX _ _ ⟨fun z => ?_, fun _ => ⟨fun z => ?_, fun z => ?_⟩⟩
      · rw [c1, n_ule (by omega) (by omega)] at z; omega
      · rw [show (7 : Int32) = nI 7 from rfl, n_ule (by omega) (by omega)] at z
        rw [ff_s] at e
        rw [if_neg (by intro y; omega)] at e
        rw [← e] at hQ; exact hQ
      · rw [show (7 : Int32) = nI 7 from rfl, n_ule (by omega) (by omega)] at z
        refine ⟨n_in (by omega) (by omega), n_in (by omega) (by omega), n_in (by omega) (by omega), ?_⟩
        rw [n_cl (by omega), p_within, nI_1]
        rw [ff_s] at e
        by_cases hf : h.1 2 i < lowI i ∨ highI i < h.1 2 i
        · rw [if_pos hf]
          rw [if_neg (fun y => y.2 hf)] at e
          rw [← e] at hQ
          exact ⟨fun y => absurd rfl y, fun _ => hQ⟩
        · rw [if_neg hf]
          rw [if_pos ⟨by omega, hf⟩] at e
          exact ⟨fun _ => ih (i + 1) (by omega) e, fun y => absurd y (by decide)⟩
  exact key n 0 (by omega) rfl
theorem lt_eq {x : Int32} {a : Int32} : (¬ (x < a ∨ a < x)) ↔ x = a := by
  constructor
  · intro h
    have h1 := Int32.not_lt.mp fun z => h (Or.inl z)
    have h2 := Int32.not_lt.mp fun z => h (Or.inr z)
    exact Int32.le_antisymm h2 h1
  · rintro rfl
    rintro (z | z) <;> exact Int32.lt_irrefl z
theorem n_ti {n : Nat} (h : n < 2 ^ 31) : (nI n).toInt = (n : Int) := Int32.toInt_ofNat_of_lt h
theorem m_fitsAt {i : Nat} {x : Int32} {h : HP} {Q : Int32 → HP → Prop} (hi : i < 9) (hQ : Q (if fitP i x then 1 else 0) h) : P_X9_fitsAt (nI i) x h Q := by
  unfold P_X9_fitsAt
  rw [n_ti (by omega), p_withinM, p_withinM, p_withinM]
  have w : ∀ a b : Int32, a = lowI i → b = highI i → i < 7 → ((if x < a ∨ b < x then (0 : Int32) else 1) = 0 ∨ (if x < a ∨ b < x then (0 : Int32) else 1) = 1) ∧ Q (if x < a ∨ b < x then 0 else 1) h := by
    intro a b ha hb h7
    subst ha hb
    by_cases hf : x < lowI i ∨ highI i < x
    · rw [if_pos hf]
      rw [if_neg (fun y => y.2 hf)] at hQ
      exact ⟨Or.inl rfl, hQ⟩
    · rw [if_neg hf]
      rw [if_pos ⟨h7, hf⟩] at hQ
      exact ⟨Or.inr rfl, hQ⟩
  have w1 : ∀ a : Int32, a = lowI i → a = highI i → i < 7 → (¬ x = a → Q 0 h) ∧ (x = a → Q 1 h) := by
    intro a ha hb h7
    have e : (¬ (x < lowI i ∨ highI i < x)) ↔ x = a := by rw [← ha, ← hb]; exact lt_eq
    refine ⟨fun z => ?_, fun z => ?_⟩
    · rw [if_neg (fun y => z (e.mp y.2))] at hQ; exact hQ
    · rw [if_pos ⟨h7, e.mpr z⟩] at hQ; exact hQ
  refine ⟨fun z => ?_, fun z => ?_, fun z => ?_, fun z => ?_, fun z => ?_, fun z => ?_, fun z => ?_, fun z => ?_⟩
  · have : i = 0 := by omega
    subst this; exact w _ _ rfl rfl (by omega)
  · have : i = 1 := by omega
    subst this; exact w1 _ rfl rfl (by omega)
  · have : i = 2 := by omega
    subst this; exact w _ _ rfl rfl (by omega)
  · have : i = 3 := by omega
    subst this; exact w1 _ rfl rfl (by omega)
  · have : i = 4 := by omega
    subst this; exact w _ _ rfl rfl (by omega)
  · have : i = 5 := by omega
    subst this; exact w1 _ rfl rfl (by omega)
  · have : i = 6 := by omega
    subst this; exact w _ _ rfl rfl (by omega)
  · rw [if_neg (by intro y; omega)] at hQ; exact hQ
theorem m_faultNow {n : Nat} {h : HP} {Q : Int32 → HP → Prop} (hn : n ≤ 9) (c1 : h.1 78 6 = nI n) (hQ : Q (nI (ff (h.1 79) n 0)) h) : P_X9_faultNow h Q := by
  unfold P_X9_faultNow
  refine lpc2 fun X hX => ?_
  have key : ∀ d i, i + d = n → ff (h.1 79) d i = ff (h.1 79) n 0 → X (nI i) h := by
    intro d
    induction d with
    | zero =>
      intro i hi e
      have : i = n := by omega
      subst this
      refine hX _ _ ⟨fun _ => ?_, fun z => absurd ?_ z⟩
      · rw [← e] at hQ; exact hQ
      · rw [c1]; exact Int32.le_refl _
    | succ d ih =>
      intro i hi e
      refine hX _ _ ⟨fun z => ?_, fun _ => ⟨n_in (by omega) (by omega), ?_⟩⟩
      · rw [c1, n_ule (by omega) (by omega)] at z; omega
      · rw [n_cl (by omega), nI_1]
        refine m_fitsAt (by omega) ?_
        rw [ff_s] at e
        by_cases hf : fitP i (h.1 79 i)
        · rw [if_pos hf]
          rw [if_pos hf] at e
          exact ⟨fun y => absurd y (by decide), fun _ => ih (i + 1) (by omega) e⟩
        · rw [if_neg hf]
          rw [if_neg hf] at e
          rw [← e] at hQ
          exact ⟨fun _ => hQ, fun y => absurd rfl y⟩
  exact key n 0 (by omega) rfl
theorem ff_cg {f g : Nat → Int32} : ∀ d i, (∀ j, i ≤ j → j < i + d → f j = g j) → ff f d i = ff g d i := by
  intro d
  induction d with
  | zero => intro i _; rfl
  | succ d ih =>
    intro i h
    rw [ff_s, ff_s, h i (by omega) (by omega), ih (i + 1) fun j h1 h2 => h j (by omega) (by omega)]
theorem o_fault : OpI P_X8_fault P_X9_fault InvW := by
  intro hc hm hI
  obtain ⟨n, hn, c1, m6, hco⟩ := hI.1
  unfold P_X8_fault
  refine k_firstFault hn c1 ?_
  show P_X9_fault hm _
  unfold P_X9_fault
  refine m_faultNow hn m6 ⟨?_, hI⟩
  rw [ff_cg n 0 fun j _ h2 => hco j (by omega)]
