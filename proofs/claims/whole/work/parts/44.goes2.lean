/-! Near end: a bundle goes, the class's loop. -/
theorem ew_lo {k j : Nat} {U : Nat → NU} (h : k ≤ j) : ew k U j = U j := if_neg (by omega)
theorem ew_s1 {k : Nat} {U : Nat → NU} (h : (U k).2.2.2 = 0) : ew (k + 1) U = upE (ew k U) k ((U k).1, (U k).2.1, (U k).2.2.1 + 1, 0) := by
  funext j
  unfold ew upE
  by_cases hj : j = k
  · subst hj
    rw [if_pos rfl, if_pos ⟨by omega, h⟩]
  · rw [if_neg hj]
    show (if j < k + 1 ∧ (U j).2.2.2 = 0 then ((U j).1, (U j).2.1, (U j).2.2.1 + 1, 0) else U j) = (if j < k ∧ (U j).2.2.2 = 0 then ((U j).1, (U j).2.1, (U j).2.2.1 + 1, 0) else U j)
    by_cases h2 : j < k ∧ (U j).2.2.2 = 0
    · rw [if_pos h2, if_pos ⟨by omega, h2.2⟩]
    · rw [if_neg h2, if_neg (fun z => h2 ⟨by omega, z.2⟩)]
theorem ew_s0 {k : Nat} {U : Nat → NU} (h : ¬ (U k).2.2.2 = 0) : ew (k + 1) U = ew k U := by
  funext j
  unfold ew
  by_cases hj : j = k
  · subst hj
    rw [if_neg (fun z => h z.2), if_neg (fun z => h z.2)]
  · by_cases h2 : j < k ∧ (U j).2.2.2 = 0
    · rw [if_pos h2, if_pos ⟨by omega, h2.2⟩]
    · rw [if_neg h2, if_neg (fun z => h2 ⟨by omega, z.2⟩)]
theorem ew_0 {U : Nat → NU} : ew 0 U = U := by
  funext j
  exact if_neg (by omega)
theorem CB.cg {f : Nat → Nat → Int32} {N st sp : Nat} {e e' : Nat → NU} (h : CB f N (st, sp, e)) (he : ∀ k, k < sp → e' k = e k) : CB f N (st, sp, e') := ⟨h.1, h.2.1, h.2.2.1, h.2.2.2.1, fun k hk => by
  show CE f N ((st + k) % 16) (e' k)
  rw [he k hk]; exact h.2.2.2.2 k hk⟩
def sGo (N r a b : Nat) : Prop := (a = N ∧ (b = 5 ∨ b = 6 ∨ b = 8 ∨ b = 10)) ∨ (N + 1 ≤ a ∧ a ≤ N + 6) ∨ sBind r a b
theorem k_bundleGoes {N r c tr w st sp qn K m : Nat} {e : Nat → NU} {q : Nat → Nat × Nat} {h : HP} {Q : HP → Prop} (hc : c < 4) (hN : 33 < N) (hr : r + 4 < N) (h2 : h.1 N 2 = nI w) (hw : sp ≤ w) (hw2 : w ≤ 12) (ht : tr ≤ 4) (hb : CB h.1 N (st, sp, e)) (hq : CQ h.1 N qn q) (hok : ∀ k, k < sp → EOk tr (e k)) (qok : QOk qn q) (hG : CFm h.1 r c 0 (fx st (UU sp e q) 0)) (hKw : K ≤ w) (hKT : K ≤ sp + qn) (hKm : cu (UU sp e q) K = m) (hKl : ∀ k, k < K → cu (UU sp e q) k < m) (hm8 : m ≤ 8) (hQ : ∀ h' : HP, h'.2 = h.2 → CB h'.1 N (st, max sp K, ew K (UU sp e q)) → CQ h'.1 N (qn - (K - sp)) (fun i => q (i + (K - sp))) → CFm h'.1 r c m (fx st (UU sp e q) K) → h'.1 N 8 = 1 → h'.1 N 10 = 0 → Fr (sGo N r) h.1 h'.1 → Q h') : P_X3_bundleGoes N r (nI m) h Q := by
  have hst : st < 64 := hb.1
  have hqn := hq.1
  unfold P_X3_bundleGoes
  refine lpc2 fun X hX => ?_
  have key : ∀ d n (h1 : HP), n + d = K → h1.2 = h.2 → CB h1.1 N (st, max sp n, ew n (UU sp e q)) → CQ h1.1 N (qn - (n - sp)) (fun i => q (i + (n - sp))) → CFm h1.1 r c (cu (UU sp e q) n) (fx st (UU sp e q) n) → Fr (sGo N r) h.1 h1.1 → X (nI n) h1 := by
    intro d
    induction d with
    | zero =>
      intro n h1 hn e1 eb eq ec ef
      have : n = K := by omega
      subst this
      have fin : Q (si (si h1 N 8 1) N 10 0) := by
        refine hQ _ e1 ?_ ?_ ?_ ?_ (si_s ..) (ef.tr ((Fr.si (Or.inl ⟨rfl, by omega⟩)).tr (Fr.si (Or.inl ⟨rfl, by omega⟩))))
        · exact eb.fr ((si_p (by decide) _).trans (si_p (by decide) _)) ((si_p (by decide) _).trans (si_p (by decide) _)) fun a s h1 h2 => (si_o (by omega) _).trans (si_o (by omega) _)
        · exact ⟨eq.1, ((si_p (by decide) _).trans (si_p (by decide) _)).trans eq.2.1, fun i hi => ⟨((si_o (by omega) _).trans (si_o (by omega) _)).trans (eq.2.2 i hi).1, ((si_o (by omega) _).trans (si_o (by omega) _)).trans (eq.2.2 i hi).2⟩⟩
        · rw [← hKm]
          exact ec.fr fun a b h1 h2 => (si_o (by omega) _).trans (si_o (by omega) _)
        · rw [si_p (by decide), si_s]
      refine hX _ _ ⟨fun _ => fin, fun _ => ⟨fun _ => fin, fun hz => absurd ?_ hz⟩⟩
      rw [ec.2.1, n_ule (by omega) (by omega), hKm]; exact Nat.le_refl _
    | succ d ih =>
      intro n h1 hn e1 eb eq ec ef
      have hcu := hKl n (by omega)
      have e2 : h1.1 N 2 = nI w := by rw [ef _ _ (by rintro (⟨-, z⟩ | z | ⟨z, -⟩ | z) <;> omega)]; exact h2
      have okU := UU_ok hok qok (show n < sp + qn by omega)
      obtain ⟨k1, k2, k3, k4⟩ := okU
      have j30 : ∀ h2 : HP, h2.2 = h.2 → CB h2.1 N (st, max sp (n + 1), ew n (UU sp e q)) → CQ h2.1 N (qn - (n + 1 - sp)) (fun i => q (i + (n + 1 - sp))) → CFm h2.1 r c (cu (UU sp e q) n) (fx st (UU sp e q) n) → Fr (sGo N r) h.1 h2.1 → P_X3_bundleGoes_j30 N r (nI m) (nI n) h2 X Q := by
        intro h2 g1 gb gq gc gf
        have ce : CE h2.1 N ((st + n) % 16) (ew n (UU sp e q) n) := gb.2.2.2.2 n (by show n < max sp (n + 1); omega)
        rw [ew_lo (Nat.le_refl _)] at ce
        unfold P_X3_bundleGoes_j30
        rw [show h2.1 N 4 = nI st from gb.2.2.1, nI_add, p_slot (by omega), n_cl (by omega), ce.2.2.2, n0, n_ueq (by omega) (by omega), nI_1]
        have hi : vp_in (nI ((st + n) % 16)) 16 := n_in (by omega) (by omega)
        refine ⟨hi, fun hd => ?_, fun hd => ⟨hi, hi, ?_⟩⟩
        · refine ih (n + 1) h2 (by omega) g1 ?_ gq ?_ gf
          · rw [ew_s0 hd]; exact gb
          · show CFm h2.1 r c (cu (UU sp e q) n + _) (if _ then _ else _)
            rw [if_neg hd, if_neg hd]; exact gc
        · rw [ce.2.2.1, nI_1, si_o (show N ≠ N + 5 by omega), show h2.1 N 4 = nI st from gb.2.2.1, nI_add, p_round (by omega), si_o (show N + 3 ≠ N + 5 by omega), ce.1, si_o (show N + 4 ≠ N + 5 by omega), ce.2.1]
          refine ⟨hi, hi, k_bind (c := c) (n := cu (UU sp e q) n) (G := fx st (UU sp e q) n) hc (by omega) ?_ (by omega) k1.2 k2.2 fun h3 l1 lc lf => ?_⟩
          · exact gc.fr fun a b z1 z2 => si_o (by omega) _
          · have o3 : ∀ a b, N ≤ a → h3.1 a b = (si h2 (N + 5) ((st + n) % 16) (nI ((UU sp e q n).2.2.1 + 1))).1 a b := fun a b ha => lf a b (by rintro (⟨z, -⟩ | z) <;> omega)
            refine ih (n + 1) h3 (by omega) (l1.trans g1) ?_ ?_ ?_ ?_
            · rw [ew_s1 hd]
              refine CB.fr (f := (si h2 (N + 5) ((st + n) % 16) (nI ((UU sp e q n).2.2.1 + 1))).1) (CB.up gb (show n < max sp (n + 1) by omega) rfl (N + 5) (by omega) ?_) (o3 _ _ (by omega)) (o3 _ _ (by omega)) fun a s h1 h2 => o3 _ _ (by omega)
              exact ⟨by rw [si_o (by omega)]; exact ce.1, by rw [si_o (by omega)]; exact ce.2.1, by rw [si_s], by rw [si_o (by omega), ce.2.2.2, hd]⟩
            · exact ⟨gq.1, ((o3 _ _ (by omega)).trans (si_o (by omega) _)).trans gq.2.1, fun i hi => ⟨((o3 _ _ (by omega)).trans (si_o (by omega) _)).trans (gq.2.2 i hi).1, ((o3 _ _ (by omega)).trans (si_o (by omega) _)).trans (gq.2.2 i hi).2⟩⟩
            · show CFm h3.1 r c (cu (UU sp e q) n + _) (if _ then _ else _)
              rw [if_pos hd, if_pos hd]; exact lc
            · exact gf.tr ((Fr.si (Or.inr (Or.inl ⟨by omega, by omega⟩))).tr (lf.mono fun a b z => Or.inr (Or.inr z)))
      refine hX _ _ ⟨fun hz => ?_, fun _ => ⟨fun hz => ?_, fun _ => k_spread eb ⟨fun hz => ?_, fun hz => ?_⟩⟩⟩
      · rw [e2, n_ule (by omega) (by omega)] at hz; omega
      · rw [ec.2.1, n_ule (by omega) (by omega)] at hz; omega
      · rw [n_ult (by omega) (by omega)] at hz
        refine j30 h1 e1 ?_ ?_ ec ef
        · rw [show max sp (n + 1) = max sp n by omega]; exact eb
        · rw [show n + 1 - sp = n - sp by omega]; exact eq
      · rw [n_ult (by omega) (by omega)] at hz
        have eqq : CQ h1.1 N (qn - (n + 1 - sp) + 1) (fun i => q (i + (n - sp))) := by
          rw [show qn - (n + 1 - sp) + 1 = qn - (n - sp) by omega]; exact eq
        refine k_giveNext eb eqq (by omega) fun h2 g1 gb gq gf => j30 h2 (g1.trans e1) ?_ ?_ ?_ ?_
        · rw [show max sp (n + 1) = max sp n + 1 by omega]
          refine gb.cg fun k hk => ?_
          by_cases hkn : k = max sp n
          · rw [hkn, upE_s, ew_lo (by omega), UU_hi (by omega)]
            rw [show max sp n - sp = 0 + (n - sp) by omega]
          · rw [upE_o hkn]
        · have := gq
          rw [show (fun i => q (i + (n + 1 - sp))) = fun i => (fun i => q (i + (n - sp))) (i + 1) from funext fun i => by show q _ = q _; congr 1; omega]
          exact gq
        · exact ec.fr fun a b z1 z2 => gf a b (by rintro (⟨z, -⟩ | z) <;> omega)
        · refine ef.tr (gf.mono fun a b z => ?_)
          rcases z with ⟨z1, z2⟩ | z
          · exact Or.inl ⟨z1, by omega⟩
          · exact Or.inr (Or.inl z)
  have k0 := key K 0 h (by omega) rfl (by rw [Nat.max_eq_left (Nat.zero_le _), ew_0]; exact hb.cg fun k hk => UU_lo hk) (by rw [show 0 - sp = 0 by omega]; exact hq) hG Fr.rf
  exact k0
