/-! Near end: which sub-frames a bundle would have. -/
abbrev PS : Type := Nat × Nat × Nat × Nat
def UU (sp : Nat) (e : Nat → NU) (q : Nat → Nat × Nat) : Nat → NU := fun k => if k < sp then e k else ((q (k - sp)).1, (q (k - sp)).2, 0, 0)
theorem UU_lo {sp k : Nat} {e : Nat → NU} {q : Nat → Nat × Nat} (h : k < sp) : UU sp e q k = e k := if_pos h
theorem UU_hi {sp k : Nat} {e : Nat → NU} {q : Nat → Nat × Nat} (h : sp ≤ k) : UU sp e q k = ((q (k - sp)).1, (q (k - sp)).2, 0, 0) := if_neg (by omega)
def tryS (bnd w : Nat) (room : Int32) (l k : Nat) (s : PS) : PS := if s.2.2.2 = 0 ∧ s.1 < bnd ∧ nI (s.2.1 + l) ≤ room ∧ k < w then (s.1 + 1, s.2.1 + l, s.2.2.1, 0) else (s.1, s.2.1, s.2.2.1, 1)
def newS (sp k : Nat) (s : PS) : PS := if k < sp then s else if s.2.2.2 = 0 then (s.1, s.2.1, s.2.2.1 + 1, s.2.2.2) else s
def plS (bnd w sp : Nat) (room : Int32) (U : Nat → NU) (k : Nat) (s : PS) : PS := if (U k).2.2.2 = 0 then newS sp k (tryS bnd w room (U k).2.1 k s) else s
def pl (bnd w sp : Nat) (room : Int32) (U : Nat → NU) : Nat → PS
  | 0 => (0, 0, 0, 0)
  | n + 1 => plS bnd w sp room U n (pl bnd w sp room U n)
def cu (U : Nat → NU) : Nat → Nat
  | 0 => 0
  | n + 1 => cu U n + if (U n).2.2.2 = 0 then 1 else 0
theorem cu_mono (U : Nat → NU) : ∀ n m, n ≤ m → cu U n ≤ cu U m := by
  intro n m h
  induction h with
  | refl => exact Nat.le_refl _
  | step _ ih => exact Nat.le_trans ih (Nat.le_add_right _ _)
theorem cu_le (U : Nat → NU) : ∀ n, cu U n ≤ n := by
  intro n
  induction n with
  | zero => exact Nat.le_refl _
  | succ n ih => unfold cu; split <;> omega
theorem newS_1 {sp k : Nat} {s : PS} : (newS sp k s).1 = s.1 ∧ (newS sp k s).2.1 = s.2.1 ∧ (newS sp k s).2.2.2 = s.2.2.2 := by
  unfold newS
  split
  · exact ⟨rfl, rfl, rfl⟩
  · split <;> exact ⟨rfl, rfl, rfl⟩
/-- after the end nothing goes -/
theorem pl_end {bnd w sp : Nat} {room : Int32} {U : Nat → NU} {k : Nat} (h : (pl bnd w sp room U k).2.2.2 ≠ 0 ∨ w ≤ k ∨ bnd ≤ (pl bnd w sp room U k).1) : ∀ d, (pl bnd w sp room U (k + d)).1 = (pl bnd w sp room U k).1 ∧ ((pl bnd w sp room U k).2.2.2 ≠ 0 → (pl bnd w sp room U (k + d)).2.2.2 ≠ 0) := by
  intro d
  induction d with
  | zero => exact ⟨rfl, id⟩
  | succ d ih =>
    show (plS bnd w sp room U (k + d) (pl bnd w sp room U (k + d))).1 = _ ∧ (_ → (plS bnd w sp room U (k + d) (pl bnd w sp room U (k + d))).2.2.2 ≠ 0)
    unfold plS
    split
    · rw [newS_1.1, newS_1.2.2]
      unfold tryS
      rw [if_neg (by
        rintro ⟨z1, z2, z3, z4⟩
        rcases h with h | h | h
        · exact ih.2 h z1
        · omega
        · rw [ih.1] at z2; omega)]
      exact ⟨ih.1, fun _ => by show (1 : Nat) ≠ 0; decide⟩
    · exact ih
theorem pl_K0 {bnd w sp : Nat} {room : Int32} {U : Nat → NU} (hw : sp ≤ w) (hU : ∀ k, sp ≤ k → (U k).2.2.2 = 0) : ∀ n, ∃ k0, k0 ≤ n ∧ k0 ≤ w ∧ (pl bnd w sp room U n).1 = cu U k0 ∧ (pl bnd w sp room U n).2.2.1 = k0 - sp ∧ (pl bnd w sp room U n).1 ≤ bnd ∧ ((pl bnd w sp room U n).2.2.2 = 0 → k0 = n) := by
  intro n
  induction n with
  | zero => exact ⟨0, Nat.le_refl _, Nat.zero_le _, rfl, by show 0 = 0 - sp; omega, Nat.zero_le _, fun _ => rfl⟩
  | succ n ih =>
    obtain ⟨k0, a1, a2, a3, a4, a5, a6⟩ := ih
    show ∃ k0, k0 ≤ n + 1 ∧ k0 ≤ w ∧ (plS bnd w sp room U n (pl bnd w sp room U n)).1 = cu U k0 ∧ (plS bnd w sp room U n (pl bnd w sp room U n)).2.2.1 = k0 - sp ∧ (plS bnd w sp room U n (pl bnd w sp room U n)).1 ≤ bnd ∧ ((plS bnd w sp room U n (pl bnd w sp room U n)).2.2.2 = 0 → k0 = n + 1)
    unfold plS
    by_cases hd : (U n).2.2.2 = 0
    · rw [if_pos hd]
      unfold tryS
      by_cases hc : (pl bnd w sp room U n).2.2.2 = 0 ∧ (pl bnd w sp room U n).1 < bnd ∧ nI ((pl bnd w sp room U n).2.1 + (U n).2.1) ≤ room ∧ n < w
      · rw [if_pos hc]
        have hk := a6 hc.1
        subst hk
        refine ⟨k0 + 1, by omega, by omega, ?_, ?_, ?_, fun _ => rfl⟩
        · rw [newS_1.1]
          show _ + 1 = cu U k0 + _
          rw [if_pos hd, a3]
        · unfold newS
          by_cases hs : k0 < sp
          · rw [if_pos hs]
            show (pl bnd w sp room U k0).2.2.1 = _
            omega
          · rw [if_neg hs, if_pos rfl]
            show (pl bnd w sp room U k0).2.2.1 + 1 = _
            omega
        · rw [newS_1.1]; exact hc.2.1
      · rw [if_neg hc]
        refine ⟨k0, by omega, a2, ?_, ?_, ?_, ?_⟩
        · rw [newS_1.1]; exact a3
        · unfold newS
          by_cases hs : n < sp
          · rw [if_pos hs]; exact a4
          · rw [if_neg hs, if_neg (by show ¬ (1 : Nat) = 0; decide)]; exact a4
        · rw [newS_1.1]; exact a5
        · rw [newS_1.2.2]
          intro z; exact absurd (show (1 : Nat) = 0 from z) (by decide)
    · rw [if_neg hd]
      have hn : n < sp := by
        by_cases hq : n < sp
        · exact hq
        · exact absurd (hU n (by omega)) hd
      by_cases he : (pl bnd w sp room U n).2.2.2 = 0
      · have hk := a6 he
        subst hk
        refine ⟨k0 + 1, by omega, by omega, ?_, by omega, a5, fun _ => rfl⟩
        show _ = cu U k0 + _
        rw [if_neg hd, Nat.add_zero]; exact a3
      · exact ⟨k0, by omega, a2, a3, a4, a5, fun z => absurd z he⟩
theorem cu_K {sp m : Nat} {U : Nat → NU} (hU : ∀ k, sp ≤ k → (U k).2.2.2 = 0) (hm : 0 < m) : ∀ k0, cu U k0 = m → ∃ K, 0 < K ∧ K ≤ k0 ∧ cu U K = m ∧ (∀ k, k < K → cu U k < m) ∧ K - sp = k0 - sp ∧ (U (K - 1)).2.2.2 = 0 := by
  intro k0
  induction k0 with
  | zero => intro h; exact absurd (show 0 = m from h) (by omega)
  | succ n ih =>
    intro h
    by_cases hd : (U n).2.2.2 = 0
    · refine ⟨n + 1, by omega, Nat.le_refl _, h, fun k hk => ?_, rfl, hd⟩
      have h1 : cu U n + _ = m := h
      rw [if_pos hd] at h1
      have := cu_mono U k n (by omega)
      omega
    · have h1 : cu U n + _ = m := h
      rw [if_neg hd] at h1
      have hn : n < sp := by
        by_cases hq : n < sp
        · exact hq
        · exact absurd (hU n (by omega)) hd
      obtain ⟨K, b0, b1, b2, b3, b4, b5⟩ := ih h1
      exact ⟨K, b0, by omega, b2, b3, by omega, b5⟩
theorem pl_K {bnd w sp T : Nat} {room : Int32} {U : Nat → NU} (hw : sp ≤ w) (hU : ∀ k, sp ≤ k → (U k).2.2.2 = 0) (hm : 0 < (pl bnd w sp room U T).1) : ∃ K, 0 < K ∧ K ≤ w ∧ K ≤ T ∧ cu U K = (pl bnd w sp room U T).1 ∧ (∀ k, k < K → cu U k < (pl bnd w sp room U T).1) ∧ (pl bnd w sp room U T).2.2.1 = K - sp ∧ (pl bnd w sp room U T).1 ≤ bnd ∧ (U (K - 1)).2.2.2 = 0 := by
  obtain ⟨k0, a1, a2, a3, a4, a5, -⟩ := pl_K0 (bnd := bnd) (room := room) hw hU T
  obtain ⟨K, b0, b1, b2, b3, b4, b5⟩ := cu_K hU hm k0 a3.symm
  exact ⟨K, b0, by omega, by omega, b2, b3, by omega, a5, b5⟩
def CQ (f : Nat → Nat → Int32) (N qn : Nat) (q : Nat → Nat × Nat) : Prop := qn ≤ 24 ∧ f N 6 = nI qn ∧ ∀ i, i < qn → f (N + 1) i = nI (q i).1 ∧ f (N + 2) i = nI (q i).2
def QOk (qn : Nat) (q : Nat → Nat × Nat) : Prop := ∀ i, i < qn → (1 ≤ (q i).1 ∧ (q i).1 ≤ 999) ∧ 1 ≤ (q i).2 ∧ (q i).2 ≤ 20
theorem UU_ok {tr sp qn k : Nat} {e : Nat → NU} {q : Nat → Nat × Nat} (hok : ∀ k, k < sp → EOk tr (e k)) (hq : QOk qn q) (hk : k < sp + qn) : EOk tr (UU sp e q k) := by
  by_cases h : k < sp
  · rw [UU_lo h]; exact hok k h
  · rw [UU_hi (by omega)]
    obtain ⟨a, b⟩ := hq (k - sp) (by omega)
    exact ⟨a, b, Nat.zero_le _, Nat.zero_le _⟩
theorem pl_sum {bnd w sp T : Nat} {room : Int32} {U : Nat → NU} (hU : ∀ k, k < T → (U k).2.1 ≤ 20) : ∀ n, n ≤ T → (pl bnd w sp room U n).2.1 ≤ 20 * n ∧ (pl bnd w sp room U n).1 ≤ n := by
  intro n
  induction n with
  | zero => intro _; exact ⟨Nat.le_refl _, Nat.le_refl _⟩
  | succ n ih =>
    intro hn
    have h1 := ih (by omega)
    have h2 := hU n (by omega)
    show (plS bnd w sp room U n (pl bnd w sp room U n)).2.1 ≤ _ ∧ (plS bnd w sp room U n (pl bnd w sp room U n)).1 ≤ _
    unfold plS
    split
    · rw [newS_1.1, newS_1.2.1]
      unfold tryS
      split
      · constructor
        · show (pl bnd w sp room U n).2.1 + (U n).2.1 ≤ _; omega
        · show (pl bnd w sp room U n).1 + 1 ≤ _; omega
      · constructor
        · show (pl bnd w sp room U n).2.1 ≤ _; omega
        · show (pl bnd w sp room U n).1 ≤ _; omega
    · omega
theorem k_bundleSize {N tr bnd w qn st sp : Nat} {e : Nat → NU} {q : Nat → Nat × Nat} {room : Int32} {h : HP} {Q : Int32 → HP → Prop} (h2 : h.1 N 2 = nI w) (hw : sp ≤ w) (hw2 : w ≤ 12) (hbn : bnd ≤ 8) (hb : CB h.1 N (st, sp, e)) (hq : CQ h.1 N qn q) (hok : ∀ k, k < sp → EOk tr (e k)) (qok : QOk qn q) (hQ : Q (nI (pl bnd w sp room (UU sp e q) (sp + qn)).1) h) : P_X3_bundleSize N (nI bnd) room h Q := by
  have hsp : sp ≤ 12 := hb.2.1
  have hst : st < 64 := hb.1
  have hqn : qn ≤ 24 := hq.1
  have hUl : ∀ k, k < sp + qn → (UU sp e q k).2.1 ≤ 20 := fun k hk => (UU_ok hok qok hk).2.1.2
  unfold P_X3_bundleSize
  refine k_spread hb ?_
  refine lpc4 fun X hX => ?_
  have stop : ∀ n, n ≤ sp + qn → ((pl bnd w sp room (UU sp e q) n).2.2.2 ≠ 0 ∨ w ≤ n ∨ bnd ≤ (pl bnd w sp room (UU sp e q) n).1) → Q (nI (pl bnd w sp room (UU sp e q) n).1) h := by
    intro n hn hz
    have := (pl_end hz (sp + qn - n)).1
    rw [show n + (sp + qn - n) = sp + qn by omega] at this
    rw [← this]; exact hQ
  have key : ∀ m n, n + m = sp + qn → (pl bnd w sp room (UU sp e q) n).2.2.2 = 0 → X (nI (pl bnd w sp room (UU sp e q) n).1) (nI (pl bnd w sp room (UU sp e q) n).2.1) (nI n) h := by
    intro m
    induction m with
    | zero =>
      intro n hn h0
      have hps := pl_sum (bnd := bnd) (w := w) (sp := sp) (room := room) hUl n (by omega)
      refine hX _ _ _ _ ⟨fun hz => ?_, fun hz => ⟨fun _ => ?_, fun hy => absurd ?_ hy⟩⟩
      · rw [h2, n_ule (by omega) (by omega)] at hz
        exact stop n (by omega) (Or.inr (Or.inl hz))
      · have : n = sp + qn := by omega
        rw [this]; exact hQ
      · rw [hq.2.1, nI_add, n_ule (by omega) (by omega)]; omega
    | succ m ih =>
      intro n hn h0
      have hps := pl_sum (bnd := bnd) (w := w) (sp := sp) (room := room) hUl n (by omega)
      have hUn := UU_ok hok qok (show n < sp + qn by omega)
      have hl := hUn.2.1.2
      refine hX _ _ _ _ ⟨fun hz => ?_, fun hz => ⟨fun hy => ?_, fun hy => ⟨fun hx => ?_, fun hx => ?_⟩⟩⟩
      · rw [h2, n_ule (by omega) (by omega)] at hz
        exact stop n (by omega) (Or.inr (Or.inl hz))
      · rw [hq.2.1, nI_add, n_ule (by omega) (by omega)] at hy; omega
      · rw [n_ule (by omega) (by omega)] at hx
        exact stop n (by omega) (Or.inr (Or.inr hx))
      · rw [h2, n_ule (by omega) (by omega)] at hz
        rw [n_ule (by omega) (by omega)] at hx
        have j107 : (UU sp e q n).2.2.2 = 0 → P_X3_bundleSize_j107 N (nI bnd) room (nI (pl bnd w sp room (UU sp e q) n).1) (nI ((pl bnd w sp room (UU sp e q) n).2.1 + (UU sp e q n).2.1)) (nI sp) (nI n) h X Q := by
          intro hd
          refine ⟨fun hr => ?_, fun hr => ?_⟩
          · have q1 : pl bnd w sp room (UU sp e q) (n + 1) = newS sp n ((pl bnd w sp room (UU sp e q) n).1 + 1, (pl bnd w sp room (UU sp e q) n).2.1 + (UU sp e q n).2.1, (pl bnd w sp room (UU sp e q) n).2.2.1, 0) := by
              show plS bnd w sp room (UU sp e q) n (pl bnd w sp room (UU sp e q) n) = _
              unfold plS tryS
              rw [if_pos hd, if_pos ⟨h0, by omega, hr, by omega⟩]
            have hi := ih (n + 1) (by omega) (by rw [q1, newS_1.2.2])
            rw [q1, newS_1.1, newS_1.2.1] at hi
            rw [nI_1, nI_1]; exact hi
          · have q1 : pl bnd w sp room (UU sp e q) (n + 1) = newS sp n ((pl bnd w sp room (UU sp e q) n).1, (pl bnd w sp room (UU sp e q) n).2.1, (pl bnd w sp room (UU sp e q) n).2.2.1, 1) := by
              show plS bnd w sp room (UU sp e q) n (pl bnd w sp room (UU sp e q) n) = _
              unfold plS tryS
              rw [if_pos hd, if_neg (fun z => hr z.2.2.1)]
            have := stop (n + 1) (by omega) (Or.inl (by rw [q1, newS_1.2.2]; show (1 : Nat) ≠ 0; decide))
            rw [q1, newS_1.1] at this
            exact this
        have j68 : (UU sp e q n).2.2.2 = 0 → P_X3_bundleSize_j68 N (nI bnd) room (nI (pl bnd w sp room (UU sp e q) n).1) (nI (pl bnd w sp room (UU sp e q) n).2.1) (nI sp) (nI n) h X Q := by
          intro hd
          refine ⟨fun hr => ?_, fun hr => ?_⟩
          · rw [n_ule (by omega) (by omega)] at hr
            unfold P_X3_queuedLength
            have hqk := hq.2.2 (n - sp) (by omega)
            rw [n_sub (by omega), p_within, hq.2.1, n_m1 (by omega), if_neg (by rw [n0, n_ult (by omega) (by omega), n_ult (by omega) (by omega)]; omega)]
            refine ⟨fun hz => absurd hz (by decide), fun _ => ⟨n_in (by omega) (by omega), ?_⟩⟩
            rw [n_cl (by omega), hqk.2]
            have := j107 hd
            rw [UU_hi (by omega)] at this
            show P_X3_bundleSize_j107 N (nI bnd) room _ (nI _ + nI _) _ _ h X Q
            rw [nI_add]; exact this
          · rw [n_ule (by omega) (by omega)] at hr
            have ce : CE h.1 N ((st + n) % 16) (e n) := hb.2.2.2.2 n (by show n < sp; omega)
            rw [show h.1 N 4 = nI st from hb.2.2.1, nI_add, p_slot (by omega), n_cl (by omega), ce.2.1]
            refine ⟨n_in (by omega) (by omega), ?_⟩
            have := j107 hd
            rw [UU_lo (by omega)] at this
            rw [nI_add]; exact this
        refine ⟨fun hr => ?_, fun hr => ?_⟩
        · rw [n_ule (by omega) (by omega)] at hr
          exact j68 (by rw [UU_hi hr])
        · rw [n_ule (by omega) (by omega)] at hr
          have ce : CE h.1 N ((st + n) % 16) (e n) := hb.2.2.2.2 n (by show n < sp; omega)
          have ok4 := (hok n (by omega)).2.2.2
          rw [show h.1 N 4 = nI st from hb.2.2.1, nI_add, p_slot (by omega), n_cl (by omega), ce.2.2.2, n0, n_ueq (by omega) (by omega)]
          refine ⟨n_in (by omega) (by omega), fun hd => j68 (by rw [UU_lo (by omega)]; exact hd), fun hd => ?_⟩
          have q1 : pl bnd w sp room (UU sp e q) (n + 1) = pl bnd w sp room (UU sp e q) n := by
            show plS bnd w sp room (UU sp e q) n (pl bnd w sp room (UU sp e q) n) = _
            unfold plS
            rw [if_neg (by rw [UU_lo (by omega)]; exact hd)]
          have hi := ih (n + 1) (by omega) (by rw [q1]; exact h0)
          rw [q1] at hi
          rw [nI_1]; exact hi
  have k0 := key (sp + qn) 0 (by omega) rfl
  exact k0
