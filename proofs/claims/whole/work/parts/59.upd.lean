/-! What a call that touches one class leaves; lose, feed. -/
def tC (c a b : Nat) : Prop := (34 + 11 * c ≤ a ∧ a ≤ 44 + 11 * c) ∨ (a = 4 ∧ b ≠ 7) ∨ a = 5 ∨ (7 ≤ a ∧ a ≤ 31)
def tM (c a b : Nat) : Prop := iN c a b ∨ iF c a b ∨ a = 80 ∨ (a = 78 ∧ 39 ≤ b) ∨ 111 ≤ a
theorem InvW.up1 {hc hm hc' hm' : HP} {c : Nat} (hc4 : c < 4) (h : InvW hc hm) (f : Fr (tC c) hc.1 hc'.1) (g : Fr (tM c) hm.1 hm'.1) (ht : ∀ j, j < 7 → hc'.1 4 j = hm'.1 80 j) (hN : RN hc' hm' c ∨ FrN hc hm hc' hm' c) (hF : RF hc' hm' c ∨ FrF hc hm hc' hm' c) (hL : RLt hc' hm') : InvW hc' hm' := by
  obtain ⟨hP, hA, hT, -, -, -⟩ := id h
  refine h.upd (hP.fr (f _ _ ?_) (fun b => f _ _ ?_) (g _ _ ?_) (fun b => g _ _ ?_)) (hA.fr (fun b => f _ _ ?_) (fun b hb => g _ _ ?_)) ⟨ht, ?_⟩ (fun d hd => ?_) (fun d hd => ?_) hL
  · unfold tC; omega
  · unfold tC; omega
  · unfold tM iN iF; omega
  · unfold tM iN iF; omega
  · unfold tC; omega
  · unfold tM iN iF; omega
  · rw [f 4 7 (by unfold tC; omega), g 78 5 (by unfold tM iN iF; omega)]; exact hT.2
  · by_cases e : d = c
    · subst e; exact hN
    · refine Or.inr ⟨fun a b z1 z2 => f a b (by unfold tC; omega), fun a b z => g a b ?_⟩
      unfold tM iN iF
      unfold iN at z
      omega
  · by_cases e : d = c
    · subst e; exact hF
    · refine Or.inr ⟨fun a b z1 z2 => f a b (by unfold tC; omega), fun a b z => g a b ?_⟩
      unfold tM iN iF
      unfold iF at z
      omega
theorem LsOk.ne {g : Nat → Nat → Int32} {k i j : Nat} {X : Nat → LT} (h : LsOk g k X) (hi : i < k) (hj : j < k) (n : i ≠ j) : (X i).1.2.1 ≠ (X j).1.2.1 := by
  rcases Nat.lt_or_gt_of_ne n with z | z
  · exact h.2.1 i j z hj
  · exact (h.2.1 j i z hi).symm
theorem LsOk.rm {g : Nat → Nat → Int32} {k p : Nat} {X : Nat → LT} (h : LsOk g k X) (hp : p < k) : LsOk g (k - 1) (rmX p X) ∧ ∀ i, i < k - 1 → (rmX p X i).1.2.1 ≠ (X p).1.2.1 := by
  have e : ∀ i, i < k - 1 → ∃ j, j < k ∧ j ≠ p ∧ rmX p X i = X j ∧ ((i < p ∧ j = i) ∨ (p ≤ i ∧ j = i + 1)) := by
    intro i hi
    by_cases z : i < p
    · exact ⟨i, by omega, by omega, if_pos z, Or.inl ⟨z, rfl⟩⟩
    · exact ⟨i + 1, by omega, by omega, if_neg z, Or.inr ⟨by omega, rfl⟩⟩
  refine ⟨⟨fun i hi => ?_, fun i j hij hj => ?_, fun i hi => ?_⟩, fun i hi => ?_⟩
  · obtain ⟨j, j1, -, j3, -⟩ := e i hi
    rw [j3]; exact h.1 j j1
  · obtain ⟨a, a1, -, a3, a4⟩ := e i (by omega)
    obtain ⟨b, b1, -, b3, b4⟩ := e j hj
    rw [a3, b3]; exact h.ne a1 b1 (by omega)
  · obtain ⟨j, j1, -, j3, -⟩ := e i hi
    rw [j3]; exact h.2.2 j j1
  · obtain ⟨j, j1, j2, j3, -⟩ := e i hi
    rw [j3]; exact h.ne j1 hp j2
theorem LsOk.add {g : Nat → Nat → Int32} {k : Nat} {X : Nat → LT} {x : LT} (h : LsOk g k X) (hx : LtOk x) (hn : ∀ i, i < k → (X i).1.2.1 ≠ x.1.2.1) (hs : XS g x) : LsOk g (k + 1) (adX k X x) := by
  have e1 : adX k X x k = x := if_pos rfl
  have e2 : ∀ i, i < k → adX k X x i = X i := fun i hi => if_neg (by omega)
  refine ⟨fun i hi => ?_, fun i j hij hj => ?_, fun i hi => ?_⟩
  · by_cases z : i = k
    · rw [z, e1]; exact hx
    · rw [e2 i (by omega)]; exact h.1 i (by omega)
  · rw [e2 i (by omega)]
    by_cases z : j = k
    · rw [z, e1]; exact hn i (by omega)
    · rw [e2 j (by omega)]; exact h.2.1 i j hij (by omega)
  · by_cases z : i = k
    · rw [z, e1]; exact hs
    · rw [e2 i (by omega)]; exact h.2.2 i (by omega)
theorem LsOk.chg {g g' : Nat → Nat → Int32} {k c : Nat} {X : Nat → LT} (h : LsOk g k X) (h1 : ∀ d, d < 4 → d ≠ c → g' 81 d = g 81 d ∧ g' 88 d = g 88 d) (h2 : ∀ i, i < k → (X i).1.2.1 = c → XS g' (X i)) : LsOk g' k X := by
  refine ⟨h.1, h.2.1, fun i hi => ?_⟩
  by_cases z : (X i).1.2.1 = c
  · exact h2 i hi z
  · obtain ⟨q1, q2⟩ := h1 _ (h.1 i hi).2.1 z
    have := h.2.2 i hi
    unfold XS at this ⊢
    rw [q1, q2]
    exact this
theorem pig4b : ((List.range 4).all fun a => (List.range 4).all fun b => (List.range 4).all fun c => (List.range 4).all fun d => (List.range 4).all fun e => a == b || a == c || a == d || b == c || b == d || c == d || a == e || b == e || c == e || d == e) = true := by decide +kernel
theorem pig4 {a b c d e : Nat} (ha : a < 4) (hb : b < 4) (hc : c < 4) (hd : d < 4) (he : e < 4) (h : a ≠ b ∧ a ≠ c ∧ a ≠ d ∧ b ≠ c ∧ b ≠ d ∧ c ≠ d ∧ a ≠ e ∧ b ≠ e ∧ c ≠ e ∧ d ≠ e) : False := by
  have z := pig4b
  rw [List.all_eq_true] at z
  have z := z a (List.mem_range.mpr ha)
  rw [List.all_eq_true] at z
  have z := z b (List.mem_range.mpr hb)
  rw [List.all_eq_true] at z
  have z := z c (List.mem_range.mpr hc)
  rw [List.all_eq_true] at z
  have z := z d (List.mem_range.mpr hd)
  rw [List.all_eq_true] at z
  have z := z e (List.mem_range.mpr he)
  simp [h] at z
theorem LsOk.lt4 {g : Nat → Nat → Int32} {k c : Nat} {X : Nat → LT} (h : LsOk g k X) (hk : k ≤ 4) (hc : c < 4) (hn : ∀ i, i < k → (X i).1.2.1 ≠ c) : k < 4 := by
  refine Nat.lt_of_not_le fun z => ?_
  have e : k = 4 := by omega
  subst e
  exact pig4 (h.1 0 (by omega)).2.1 (h.1 1 (by omega)).2.1 (h.1 2 (by omega)).2.1 (h.1 3 (by omega)).2.1 hc ⟨h.ne (by omega) (by omega) (by omega), h.ne (by omega) (by omega) (by omega), h.ne (by omega) (by omega) (by omega), h.ne (by omega) (by omega) (by omega), h.ne (by omega) (by omega) (by omega), h.ne (by omega) (by omega) (by omega), hn _ (by omega), hn _ (by omega), hn _ (by omega), hn _ (by omega)⟩
theorem lc_ge {h : HP} {k i : Nat} {X : Nat → LT} (l1 : CLs h k X) (hi : i < 5) : 7 ≤ h.2.1 i ∧ h.2.1 i + 4 ≤ 31 := by
  obtain ⟨j, j1, j2⟩ := l1.2.2.1.1 i hi
  omega
theorem o_lose (i : Int32) : OpI (P_X8_lose i) (P_X9_lose i) InvW := by
  intro hc hm hI
  rcases lt_cases hI i with ⟨k1, k2⟩ | ⟨p, k, X, hp, rfl, a1, l1, l2, l3, k1, k2⟩
  · refine k1 _ (bz_f1 ?_)
    exact k2 hm _ rfl (bz_f2 ⟨rfl, hI⟩)
  · have hk := l1.1
    have hr := lc_ge l1 (show p < 5 by omega)
    have l1' : CLs (si hc 4 1 (hc.1 4 1 + 1)) k X := l1.fr rfl (fun a b z1 z2 => si_o (by omega) _) (si_o (by decide) _)
    refine k1 _ (bz_t1 ?_)
    refine k_take l1' hp fun h' e1 L1 e2 e3 => ⟨ty_L (l1.2.2.1.1 p (by omega)), ?_⟩
    have E : ∀ a b, a ≠ 5 → ¬ (a = 4 ∧ b = 1) → h'.1 a b = hc.1 a b := fun a b z1 z2 => (e3 a b z1).trans (by rw [si_1, if_neg z2])
    refine k2 hm _ rfl (bz_t2 ?_)
    refine m_loseNow l2 l3.1 hp fun g' f1 L2 t1 fm => ⟨?_, ?_⟩
    · rw [si_2, E _ _ (by omega) (by omega)]
      exact (l1.2.2.2 p hp).1
    · have M : ∀ a b, ¬ sDr a b → ¬ (a = 80 ∧ b = 1) → g'.1 a b = hm.1 a b := fun a b z1 z2 => fm a b (fun z => z.elim z1 z2)
      have hT := hI.2.2.1
      refine hI.up1 (c := 0) (by omega) (fun a b z => E a b (fun y => z (by unfold tC; omega)) (fun y => z (by unfold tC; omega))) (fun a b z => M a b (fun y => z (by unfold tM; unfold sDr at y; omega)) (fun y => z (by unfold tM; omega))) (fun j hj => ?_) (Or.inr ⟨fun a b z1 z2 => E a b (by omega) (by omega), fun a b z => M a b (by have := iN_lo z; unfold sDr; omega) (by have := iN_lo z; omega)⟩) (Or.inr ⟨fun a b z1 z2 => E a b (by omega) (by omega), fun a b z => M a b (by have := iF_lo z; unfold sDr; omega) (by have := iF_lo z; omega)⟩) ?_
      · by_cases z : j = 1
        · subst z
          rw [t1, e3 4 1 (by omega), si_s, hT.1 1 (by omega)]
        · rw [E 4 j (by omega) (by omega), M 80 j (by unfold sDr; omega) (by omega)]
          exact hT.1 j hj
      · refine ⟨k - 1, rmX p X, L1, L2, l3.rm hp |>.1.fr (fun c _ => M _ _ (by unfold sDr; omega) (by omega)) (fun c _ => M _ _ (by unfold sDr; omega) (by omega)), fun z => ?_⟩
        rw [E 3 0 (by omega) (by omega), a1] at z
        exact absurd z (by decide)
