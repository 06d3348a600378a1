/-! feed, close. -/
theorem NOpn.qq {f g f' g' : Nat → Nat → Int32} {N c w tr st sp qn qn' : Nat} {e : Nat → NU} {q q' : Nat → Nat × Nat} {d : ND} (h : NOpn f g N c w tr st sp e qn q d) (h1 : ∀ b, b ≠ 6 → f' N b = f N b) (h2 : ∀ a b, N + 3 ≤ a → a ≤ N + 6 → f' a b = f a b) (h3 : f' 4 6 = f 4 6) (g1 : ∀ a, 81 ≤ a → a ≤ 91 → g' a c = g a c) (g2 : ∀ a b, 95 ≤ a → a ≤ 98 → g' a b = g a b) (g3 : g' 80 6 = g 80 6) (q1 : CQ f' N qn' q') (q2 : MQu g' c qn' q') (q3 : QOk qn' q') : NOpn f' g' N c w tr st sp e qn' q' d := by
  obtain ⟨p1, p2, p3, p4, p5, p6, p7, p8, p9, p10, p11, p12, p13, p14, p15, p16, p17⟩ := h
  refine ⟨p1, p2, p3, (h1 _ (by omega)).trans p4, (g1 _ (by omega) (by omega)).trans p5, (h1 _ (by omega)).trans p6, (g1 _ (by omega) (by omega)).trans p7, p8.fr (h1 _ (by omega)) (h1 _ (by omega)) h2, p9.fr (g1 _ (by omega) (by omega)) (g1 _ (by omega) (by omega)) g2, q1, q2, ?_, ?_, p14, q3, p16, p17⟩
  · exact ⟨(h1 _ (by omega)).trans p12.1, (h1 _ (by omega)).trans p12.2.1, (h1 _ (by omega)).trans p12.2.2.1, (h1 _ (by omega)).trans p12.2.2.2.1, h3.trans p12.2.2.2.2⟩
  · exact ⟨(g1 _ (by omega) (by omega)).trans p13.1, (g1 _ (by omega) (by omega)).trans p13.2.1, (g1 _ (by omega) (by omega)).trans p13.2.2.1, (g1 _ (by omega) (by omega)).trans p13.2.2.2.1, g3.trans p13.2.2.2.2⟩
theorem k_enq1 {N qn : Nat} {v l : Int32} {h : HP} {Q : Int32 → HP → Prop} (e6 : h.1 N 6 = nI qn) (hq : qn < 24) (hQ : Q 1 (si (si (si h (N + 1) qn v) (N + 2) qn l) N 6 (nI (qn + 1)))) : P_X3_enqueue N v l h Q := by
  have e1 : ∀ j x, (si h (N + 1) j x).1 N 6 = nI qn := fun j x => (si_o (by omega) _).trans e6
  have e2 : ∀ j x j' x', (si (si h (N + 1) j x) (N + 2) j' x').1 N 6 = nI qn := fun j x j' x' => (si_o (by omega) _).trans (e1 j x)
  unfold P_X3_enqueue
  rw [e2, e1, e6, n_cl (by omega), nI_1]
  refine bc_t ?_ ⟨n_in hq (by omega), n_in hq (by omega), hQ⟩
  rw [show (24 : Int32) = nI 24 from rfl, n_ult (by omega) (by omega)]
  exact hq
theorem k_enq0 {N qn : Nat} {v l : Int32} {h : HP} {Q : Int32 → HP → Prop} (e6 : h.1 N 6 = nI qn) (hq : qn = 24) (hQ : Q 0 h) : P_X3_enqueue N v l h Q := by
  unfold P_X3_enqueue
  refine bc_f ?_ hQ
  rw [e6, show (24 : Int32) = nI 24 from rfl, n_ult (by omega) (by omega)]
  omega
def upQ (q : Nat → Nat × Nat) (n v l : Nat) : Nat → Nat × Nat := fun i => if i = n then (v, l) else q i
theorem o_feed (i j l : Int32) : OpI (P_X8_feed i j l) (P_X9_feed i j l) InvW := by
  intro hc hm hI
  rcases cls_cases hI i with ⟨k1, k2⟩ | ⟨c, hc4, rfl, a1, k1, k2⟩
  · refine k1 _ (bz_f1 ?_)
    exact k2 hm _ rfl (bz_f1 ⟨rfl, hI⟩)
  · have hic : vp_in (nI c) 4 := n_in hc4 (by omega)
    have hcl : (nI c).toNatClampNeg = c := n_cl (by omega)
    refine k1 _ (bz_t1 ?_)
    rcases wi_c 1 999 (A := 1) (B := 999) rfl rfl (by omega) (by omega) j with hj | ⟨v, hv, rfl, hj⟩
    · refine wi_f hj (bz_f2 ?_)
      exact k2 hm _ rfl (bz_t1 (wi_fM hj (bz_f2 ⟨rfl, hI⟩)))
    refine wi_t hj (bz_t2 ?_)
    rcases wi_c 1 20 (A := 1) (B := 20) rfl rfl (by omega) (by omega) l with hl | ⟨ln, hln, rfl, hl⟩
    · refine wi_f hl (bz_f1 ?_)
      exact k2 hm _ rfl (bz_t1 (wi_tM hj (bz_t2 (wi_fM hl (bz_f1 ⟨rfl, hI⟩)))))
    refine wi_t hl (bz_t1 ⟨hic, ?_⟩)
    rw [hcl]
    by_cases s2 : hm.1 81 c = 2
    · obtain ⟨w, tr, st, sp, e, qn, q, d, hn⟩ := st_opn hI hc4 s2
      obtain ⟨p1, p2, p3, p4, p5, p6, p7, p8, p9, p10, p11, p12, p13, p14, p15, p16, p17⟩ := id hn
      have s1 : hc.1 (34 + 11 * c) 1 = 2 := (st_eq hI hc4).trans s2
      have q24 : qn ≤ 24 := p10.1
      refine bc_t s1 ?_
      by_cases hq : qn < 24
      · refine k_enq1 p10.2.1 hq (bz_t2 ?_)
        rw [si_s]
        refine k2 hm _ rfl (bz_t1 (wi_tM hj (bz_t2 (wi_tM hl (bz_t1 (m_isOpen1 hc4 s2 (bz_t1 ?_)))))))
        have e1 : ∀ j x, (si hm 93 j x).1 92 c = nI qn := fun j x => (si_o (by omega) _).trans p11.2.1
        have e2 : ∀ j x j' x', (si (si hm 93 j x) 94 j' x').1 92 c = nI qn := fun j x j' x' => (si_o (by omega) _).trans (e1 j x)
        have v1 : vp_in (nI (24 * c + qn)) 96 := n_in (by omega) (by omega)
        rw [hcl, e2, e1, p11.2.1, n24, nI_add, n_cl (by omega), nI_1, si_s]
        refine ⟨hic, bc_f' ?_ ⟨hic, v1, hic, v1, hic, hic, hic, rfl, ?_⟩⟩
        · rw [show (24 : Int32) = nI 24 from rfl, n_ueq (by omega) (by omega)]
          omega
        have hT := hI.2.2.1
        have C : ∀ a b, ¬ (a = 34 + 11 * c + 1) → ¬ (a = 34 + 11 * c + 2) → ¬ (a = 34 + 11 * c ∧ b = 6) → (si (si (si hc (34 + 11 * c + 1) qn (nI v)) (34 + 11 * c + 2) qn (nI ln)) (34 + 11 * c) 6 (nI (qn + 1))).1 a b = hc.1 a b := fun a b z1 z2 z3 => by rw [si_1, if_neg z3, si_o z2, si_o z1]
        have M : ∀ a b, ¬ ((a = 93 ∨ a = 94) ∧ b = 24 * c + qn) → ¬ (a = 92 ∧ b = c) → (si (si (si hm 93 (24 * c + qn) (nI v)) 94 (24 * c + qn) (nI ln)) 92 c (nI (qn + 1))).1 a b = hm.1 a b := fun a b z1 z2 => by
          rw [si_1, if_neg z2, si_1, if_neg (by omega), si_1, if_neg (by omega)]
        refine hI.up1 hc4 (fun a b z => C a b (fun y => z (by unfold tC; omega)) (fun y => z (by unfold tC; omega)) (fun y => z (by unfold tC; omega))) (fun a b z => M a b (fun y => z (by unfold tM iN; omega)) (fun y => z (by unfold tM iN; omega))) (fun j hj => ?_) (Or.inl (Or.inr (Or.inr ⟨?_, ?_, w, tr, st, sp, e, qn + 1, upQ q qn v ln, d, ?_⟩))) (Or.inr ⟨fun a b z1 z2 => C a b (by omega) (by omega) (by omega), fun a b z => M a b (by have := iF_lo z; omega) (by have := iF_lo z; omega)⟩) ?_
        · rw [C 4 j (by omega) (by omega) (by omega), M 80 j (by omega) (by omega)]; exact hT.1 j hj
        · rw [C _ _ (by omega) (by omega) (by omega)]; exact s1
        · rw [M _ _ (by omega) (by omega)]; exact s2
        · refine hn.qq (fun b hb => C _ _ (by omega) (by omega) (by omega)) (fun a b z1 z2 => C _ _ (by omega) (by omega) (by omega)) (C _ _ (by omega) (by omega) (by omega)) (fun a z1 z2 => M _ _ (by omega) (by omega)) (fun a b z1 z2 => M _ _ (by omega) (by omega)) (M _ _ (by omega) (by omega)) ⟨by omega, si_s .., fun i hi => ?_⟩ ⟨by omega, si_s .., fun i hi => ?_⟩ fun i hi => ?_
          · by_cases z : i = qn
            · subst z
              refine ⟨?_, ?_⟩
              · rw [si_o (by omega), si_o (by omega), si_s, upQ, if_pos rfl]
              · rw [si_o (by omega), si_s, upQ, if_pos rfl]
            · rw [si_o (by omega), si_o (by omega), si_p z, si_o (by omega), si_p z, si_o (by omega), upQ, if_neg z]
              exact p10.2.2 i (by omega)
          · by_cases z : i = qn
            · subst z
              refine ⟨?_, ?_⟩
              · rw [si_o (by omega), si_o (by omega), si_s, upQ, if_pos rfl]
              · rw [si_o (by omega), si_s, upQ, if_pos rfl]
            · rw [M 93 _ (by omega) (by omega), M 94 _ (by omega) (by omega), upQ, if_neg z]
              exact p11.2.2 i (by omega)
          · by_cases z : i = qn
            · rw [upQ, if_pos z]; exact ⟨hv, hln⟩
            · rw [upQ, if_neg z]; exact p15 i (by omega)
        · exact hI.2.2.2.2.2.fr rfl (fun a b z1 z2 => C _ _ (by omega) (by omega) (by omega)) (C _ _ (by omega) (by omega) (by omega)) (C _ _ (by omega) (by omega) (by omega)) (M _ _ (by omega) (by omega)) (fun b => M _ _ (by omega) (by omega)) (fun b => M _ _ (by omega) (by omega)) (fun d _ => M _ _ (by omega) (by omega)) (fun d _ => M _ _ (by omega) (by omega))
      · refine k_enq0 p10.2.1 (by omega) (bz_f2 ?_)
        refine k2 hm _ rfl (bz_t1 (wi_tM hj (bz_t2 (wi_tM hl (bz_t1 (m_isOpen1 hc4 s2 (bz_t1 ⟨hic, bc_t' ?_ ⟨rfl, hI⟩⟩)))))))
        rw [hcl, p11.2.1, show qn = 24 by omega]
        rfl
    · refine bc_f (by rw [st_eq hI hc4]; exact s2) ?_
      exact k2 hm _ rfl (bz_t1 (wi_tM hj (bz_t2 (wi_tM hl (bz_t1 (m_isOpen0 hc4 s2 (bz_f1 ⟨rfl, hI⟩)))))))
