/-! expire: all letters of a class are lost. -/
abbrev LSt : Type := Nat × (Nat → LT) × Nat
def rmA (c : Nat) : Nat → LSt → LSt
  | 0, s => s
  | n + 1, s => if (s.2.1 n).1.2.1 = c then rmA c n (s.1 - 1, rmX n s.2.1, s.2.2 + 1) else rmA c n s
theorem rmA_s {c n : Nat} {s : LSt} : rmA c (n + 1) s = if (s.2.1 n).1.2.1 = c then rmA c n (s.1 - 1, rmX n s.2.1, s.2.2 + 1) else rmA c n s := rfl
theorem rmX_lo {n i : Nat} {X : Nat → LT} (h : i < n) : rmX n X i = X i := if_pos h
theorem rmA_ok {c : Nat} {g : Nat → Nat → Int32} : ∀ n (s : LSt), n ≤ s.1 → LsOk g s.1 s.2.1 → (∀ i, n ≤ i → i < s.1 → (s.2.1 i).1.2.1 ≠ c) → LsOk g (rmA c n s).1 (rmA c n s).2.1 ∧ ∀ i, i < (rmA c n s).1 → ((rmA c n s).2.1 i).1.2.1 ≠ c := by
  intro n
  induction n with
  | zero => exact fun s _ h1 h2 => ⟨h1, fun i hi => h2 i (by omega) hi⟩
  | succ n ih =>
    intro s hn h1 h2
    unfold rmA
    by_cases hz : (s.2.1 n).1.2.1 = c
    · rw [if_pos hz]
      obtain ⟨r1, r2⟩ := h1.rm (p := n) (by omega)
      refine ih _ (by show n ≤ s.1 - 1; omega) r1 fun i _ hi => ?_
      have := r2 i hi
      rw [hz] at this
      exact this
    · rw [if_neg hz]
      refine ih s (by omega) h1 fun i hi1 hi2 => ?_
      by_cases e : i = n
      · rw [e]; exact hz
      · exact h2 i (by omega) hi2
theorem rmA_le {c : Nat} : ∀ n (s : LSt), (rmA c n s).1 ≤ s.1 := by
  intro n
  induction n with
  | zero => exact fun s => Nat.le_refl _
  | succ n ih =>
    intro s
    unfold rmA
    by_cases hz : (s.2.1 n).1.2.1 = c
    · rw [if_pos hz]; exact Nat.le_trans (ih _) (Nat.sub_le _ _)
    · rw [if_neg hz]; exact ih s
theorem m1_neg : nI 0 + (-1) < 0 := by decide
theorem k_loseAll {c k : Nat} {X : Nat → LT} {h : HP} {Q : Int32 → HP → Prop} (hc4 : c < 4) (hx : CLs h k X) (hok : ∀ i, i < k → LtOk (X i)) (hQ : ∀ h' : HP, h'.2.2 = h.2.2 → CLs h' (rmA c k (k, X, 0)).1 (rmA c k (k, X, 0)).2.1 → h'.1 4 1 = h.1 4 1 + nI (rmA c k (k, X, 0)).2.2 → (∀ a b, a ≠ 5 → ¬ (a = 4 ∧ b = 1) → h'.1 a b = h.1 a b) → Q (nI (rmA c k (k, X, 0)).2.2) h') : P_X6_loseAllOf (nI c) h Q := by
  unfold P_X6_loseAllOf
  refine lpc3 fun Y hY => ?_
  have key : ∀ n (s : LSt) (h1 : HP), n ≤ s.1 → rmA c n s = rmA c k (k, X, 0) → CLs h1 s.1 s.2.1 → (∀ i, i < s.1 → LtOk (s.2.1 i)) → h1.2.2 = h.2.2 → (∀ a b, a ≠ 5 → h1.1 a b = h.1 a b) → Y (nI s.2.2) (nI n + (-1)) h1 := by
    intro n
    induction n with
    | zero =>
      intro s h1 hn e1 l1 ok e2 e3
      have e1' : s = rmA c k (k, X, 0) := e1
      refine hY _ _ _ (bc_t m1_neg ?_)
      rw [e1']
      rw [e1'] at l1
      refine hQ _ e2 (l1.fr rfl (fun a b z1 z2 => si_o (by omega) _) (si_o (by decide) _)) ?_ fun a b z1 z2 => ?_
      · rw [si_s, e3 _ _ (by omega)]
      · rw [si_1, if_neg z2]; exact e3 a b z1
    | succ n ih =>
      intro s h1 hn e1 l1 ok e2 e3
      have hk := l1.1
      rw [show nI (n + 1) + (-1) = nI n from pk_m1 n]
      have cl := (l1.2.2.2 n (by omega)).2.2.2.2.2.1
      have hb := (ok n (by omega)).2.1
      refine hY _ _ _ (bc_f ?_ ⟨n_in (by omega) (by omega), ?_⟩)
      · rw [n0, n_ult (by omega) (by omega)]; omega
      rw [n_cl (by omega), cl]
      refine ⟨ty_L (l1.2.2.1.1 n (by omega)), ?_⟩
      rw [rmA_s] at e1
      by_cases hz : (s.2.1 n).1.2.1 = c
      · rw [if_pos hz] at e1
        refine bc_t' (by rw [hz]) ?_
        refine k_take l1 (by omega) fun h2 g1 g2 g3 g4 => ⟨ty_L (l1.2.2.1.1 n (by omega)), ?_⟩
        rw [nI_1]
        refine ih (s.1 - 1, rmX n s.2.1, s.2.2 + 1) h2 (by show n ≤ s.1 - 1; omega) e1 g2 (fun i hi => ?_) (g1.trans e2) fun a b z => (g4 a b z).trans (e3 a b z)
        show LtOk (rmX n s.2.1 i)
        have hi' : i < s.1 - 1 := hi
        unfold rmX
        split
        · exact ok i (by omega)
        · exact ok (i + 1) (by omega)
      · rw [if_neg hz] at e1
        refine bc_f' (by rw [n_ueq (by omega) (by omega)]; exact hz) ?_
        exact ih s h1 (by omega) e1 l1 ok e2 e3
  rw [hx.2.1, Int32.sub_eq_add_neg]
  exact key k (k, X, 0) h (Nat.le_refl _) rfl hx hok rfl fun _ _ _ => rfl
theorem m_loseAll {c k : Nat} {X : Nat → LT} {h : HP} {K : Int32 → HP → Prop} (hc4 : c < 4) (hx : MLs h.1 k X) (hok : ∀ i, i < k → LtOk (X i)) (hK : ∀ h' : HP, h'.2 = h.2 → MLs h'.1 (rmA c k (k, X, 0)).1 (rmA c k (k, X, 0)).2.1 → h'.1 80 1 = h.1 80 1 + nI (rmA c k (k, X, 0)).2.2 → (∀ a b, ¬ sDr a b → ¬ (a = 80 ∧ b = 1) → h'.1 a b = h.1 a b) → K (nI (rmA c k (k, X, 0)).2.2) h') : Lp3 (fun X_61 (i3_61 : Int32) (i4_61 : Int32) (h_61 : HP) => ((i4_61 < 0) → (K i3_61 h_61)) ∧ ((¬ i4_61 < 0) → ((vp_in ((8 * i4_61) + 1) 128) ∧ (((¬ (h_61.1 111 ((8 * i4_61) + 1).toNatClampNeg) = nI c) → (X_61 i3_61 (i4_61 + (-1)) h_61)) ∧ (((h_61.1 111 ((8 * i4_61) + 1).toNatClampNeg) = nI c) → (P_X9_loseNow i4_61 h_61 (fun (v_85 : Int32) (h_85 : HP) => X_61 (i3_61 + 1) (i4_61 + (-1)) h_85))))))) 0 ((h.1 78 39) - 1) h := by
  refine lpc3 fun Y hY => ?_
  have key : ∀ n (s : LSt) (h1 : HP), n ≤ s.1 → rmA c n s = rmA c k (k, X, 0) → MLs h1.1 s.1 s.2.1 → (∀ i, i < s.1 → LtOk (s.2.1 i)) → h1.2 = h.2 → h1.1 80 1 = h.1 80 1 + nI s.2.2 → (∀ a b, ¬ sDr a b → ¬ (a = 80 ∧ b = 1) → h1.1 a b = h.1 a b) → Y (nI s.2.2) (nI n + (-1)) h1 := by
    intro n
    induction n with
    | zero =>
      intro s h1 hn e1 l1 ok e2 e3 e4
      have e1' : s = rmA c k (k, X, 0) := e1
      refine hY _ _ _ (bc_t m1_neg ?_)
      rw [e1']
      rw [e1'] at l1 e3
      exact hK _ e2 l1 e3 e4
    | succ n ih =>
      intro s h1 hn e1 l1 ok e2 e3 e4
      have hk := l1.1
      rw [show nI (n + 1) + (-1) = nI n from pk_m1 n]
      have cl := (l1.2.2 n (by omega)).2.1
      have hb := (ok n (by omega)).2.1
      have q1 : 8 * nI n + 1 = nI (8 * n + 1) := by rw [n8, n_addl _ 1 (B := 1) rfl]
      refine hY _ _ _ (bc_f ?_ ?_)
      · rw [n0, n_ult (by omega) (by omega)]; omega
      rw [q1, n_cl (by omega), cl]
      refine ⟨n_in (by omega) (by omega), ?_⟩
      rw [rmA_s] at e1
      by_cases hz : (s.2.1 n).1.2.1 = c
      · rw [if_pos hz] at e1
        refine bc_t' (by rw [hz]) ?_
        refine m_loseNow l1 ok (by omega) fun h2 g1 g2 g3 g4 => ?_
        rw [nI_1]
        refine ih (s.1 - 1, rmX n s.2.1, s.2.2 + 1) h2 (by show n ≤ s.1 - 1; omega) e1 g2 (fun i hi => ?_) (g1.trans e2) ?_ fun a b z1 z2 => (g4 a b (fun y => y.elim z1 z2)).trans (e4 a b z1 z2)
        · show LtOk (rmX n s.2.1 i)
          have hi' : i < s.1 - 1 := hi
          unfold rmX
          split
          · exact ok i (by omega)
          · exact ok (i + 1) (by omega)
        · rw [g3, e3, Int32.add_assoc, nI_1]
      · rw [if_neg hz] at e1
        refine bc_f' (by rw [n_ueq (by omega) (by omega)]; exact hz) ?_
        exact ih s h1 (by omega) e1 l1 ok e2 e3 e4
  rw [hx.2.1, Int32.sub_eq_add_neg]
  exact key k (k, X, 0) h (Nat.le_refl _) rfl hx hok rfl (by rw [show nI (k, X, 0).2.2 = (0 : Int32) from rfl, Int32.add_zero]) fun _ _ _ _ => rfl
theorem NOpn.gg {f g f' g' : Nat → Nat → Int32} {N c w tr st sp qn bd : Nat} {e e1 : Nat → NU} {q : Nat → Nat × Nat} {d : ND} (h : NOpn f g N c w tr st sp e qn q d) (h1 : ∀ k, k < sp → EOk tr (e1 k)) (cb : CB f' N (ldA sp (st, sp, (gu tr sp (e1, d)).1))) (mb : MB g' c (ldA sp (st, sp, (gu tr sp (e1, d)).1))) (cd : CD f' N (0, bd, (gu tr sp (e1, d)).2.2.2)) (md : MD g' c (0, bd, (gu tr sp (e1, d)).2.2.2)) (hbd : bd ≤ 1) (f1 : ∀ b, b = 2 ∨ b = 3 ∨ b = 6 → f' N b = f N b) (f2 : ∀ a b, a = N + 1 ∨ a = N + 2 → f' a b = f a b) (g1 : ∀ a, a = 83 ∨ a = 84 ∨ a = 92 → g' a c = g a c) (g2 : ∀ a b, a = 93 ∨ a = 94 → g' a b = g a b) : ∃ w tr st sp e qn q d, NOpn f' g' N c w tr st sp e qn q d := by
  obtain ⟨p1, p2, p3, p4, p5, p6, p7, p8, p9, p10, p11, p12, p13, p14, p15, p16, p17⟩ := h
  have b1 : st < 64 := p8.1
  obtain ⟨q1, q2, q3, q4⟩ := ldA_ok (tr := tr) sp (st, sp, (gu tr sp (e1, d)).1) (Nat.le_refl _) b1 (gu_ok h1 sp)
  have gd := gu_d (tr := tr) (z := (e1, d)) sp
  refine ⟨w, tr, _, _, _, qn, q, _, p1, p2, Nat.le_trans q2 p3, (f1 _ (by omega)).trans p4, (g1 _ (by omega)).trans p5, (f1 _ (by omega)).trans p6, (g1 _ (by omega)).trans p7, cb, mb, ⟨p10.1, (f1 _ (by omega)).trans p10.2.1, fun i hi => ⟨(f2 _ _ (by omega)).trans (p10.2.2 i hi).1, (f2 _ _ (by omega)).trans (p10.2.2 i hi).2⟩⟩, ⟨p11.1, (g1 _ (by omega)).trans p11.2.1, fun i hi => ⟨(g2 _ _ (by omega)).trans (p11.2.2 i hi).1, (g2 _ _ (by omega)).trans (p11.2.2 i hi).2⟩⟩, cd, md, q3, p15, ⟨Nat.zero_le _, hbd, ?_⟩, fun _ k hk hz => ?_⟩
  · show (gu tr sp (e1, d)).2.2.2.1 ≤ 1
    rw [gd.2.1]; exact p16.2.2
  · obtain ⟨j, j1, j2⟩ := q4 k hk
    rw [j2] at hz ⊢
    exact gu_lt sp j j1 hz
