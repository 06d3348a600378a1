theorem orb_le (a b : Nat) : orb a b ≤ 1 := by
  unfold orb
  split <;> omega
theorem o_expire (i : Int32) : OpI (P_X8_expire i) (P_X9_expire i) InvW := by
  intro hc hm hI
  rcases cls_cases hI i with ⟨k1, k2⟩ | ⟨c, hc4, rfl, a1, k1, k2⟩
  · refine k1 _ (bz_f1 ?_)
    exact k2 hm _ rfl (bz_f1 ⟨rfl, hI⟩)
  have hic : vp_in (nI c) 4 := n_in hc4 (by omega)
  have hcl : (nI c).toNatClampNeg = c := n_cl (by omega)
  have hT := hI.2.2.1
  refine k1 _ (bz_t1 ⟨hic, ?_⟩)
  rw [hcl]
  obtain ⟨k, X, l1, l2, l3, l4⟩ := hI.2.2.2.2.2
  obtain ⟨ok', non⟩ := rmA_ok (c := c) k (k, X, 0) (Nat.le_refl _) l3 (fun i z1 z2 => absurd z2 (Nat.not_lt.mpr z1))
  rcases hI.2.2.2.1 c hc4 with ⟨s1, s8, s3⟩ | ⟨s1, s2, tr, t1, t2, t3, t4⟩ | ⟨s1, s2, w, tr, st, sp, e, qn, q, d, hn⟩
  · refine bc_f (by rw [s1]; decide) (bc_t' s8 ?_)
    refine k2 hm _ rfl (bz_t1 ⟨hic, bc_f' (by rw [hcl, s3]; decide) ?_⟩)
    exact bz_f1 (m_isOpen0 hc4 (by rw [s3]; decide) (bz_f2 ⟨rfl, hI⟩))
  · refine bc_t s1 ?_
    refine k_loseAll hc4 l1 l3.1 fun h1 e1 L1 e2 e3 => ?_
    refine bc_t' ((e3 _ _ (by omega) (by omega)).trans s1) ?_
    refine k_vanish fun h2 g1 v1 v2 f1 => ?_
    refine k2 hm _ rfl (bz_t1 ⟨hic, bc_t' (by rw [hcl]; exact s2) (bz_t1 ?_)⟩)
    refine m_loseAll hc4 l2 l3.1 fun q1 f2 L2 f3 f4 => ?_
    refine bz_t2 ⟨hic, ?_⟩
    rw [hcl]
    have C : ∀ a b, a ≠ 5 → ¬ (a = 4 ∧ b = 1) → ¬ sVa (34 + 11 * c) a b → h2.1 a b = hc.1 a b := fun a b z1 z2 z3 => (f1 a b z3).trans (e3 a b z1 z2)
    have M : ∀ a b, ¬ sDr a b → ¬ (a = 80 ∧ b = 1) → ¬ (a = 81 ∧ b = c) → (si q1 81 c 0).1 a b = hm.1 a b := fun a b z1 z2 z3 => by rw [si_1, if_neg z3]; exact f4 a b z1 z2
    refine ⟨rfl, hI.up1 hc4 (fun a b z => C a b (fun y => z (by unfold tC; omega)) (fun y => z (by unfold tC; omega)) (fun y => z (by unfold tC; unfold sVa at y; omega))) (fun a b z => M a b (fun y => z (by unfold tM; unfold sDr at y; omega)) (fun y => z (by unfold tM; omega)) (fun y => z (by unfold tM iN; omega))) (fun j hj => ?_) (Or.inl (Or.inl ⟨v1, v2 8 (by omega) (by omega), si_s ..⟩)) (Or.inr ⟨fun a b z1 z2 => C a b (by omega) (by omega) (by unfold sVa; omega), fun a b z => M a b (by have := iF_lo z; unfold sDr; omega) (by have := iF_lo z; omega) (by have := iF_lo z; omega)⟩) ?_⟩
    · by_cases z : j = 1
      · subst z
        rw [f1 _ _ (by unfold sVa; omega), e2, si_o (by decide), f3, hT.1 1 (by omega)]
      · rw [C 4 j (by omega) (by omega) (by unfold sVa; omega), M 80 j (by unfold sDr; omega) (by omega) (by omega)]
        exact hT.1 j hj
    · refine ⟨_, _, L1.fr (by rw [g1]) (fun a b z1 z2 => f1 _ _ (by unfold sVa; omega)) (f1 _ _ (by unfold sVa; omega)), L2.fr ok'.1 (si_o (by decide) _) (fun y => si_o (by decide) _) (fun y => si_o (by decide) _), ok'.chg (c := c) (fun d hd z => ⟨M _ _ (by unfold sDr; omega) (by omega) (by omega), M _ _ (by unfold sDr; omega) (by omega) (by omega)⟩) (fun i hi z => absurd z (non i hi)), fun z => ?_⟩
      rw [C 3 0 (by omega) (by omega) (by unfold sVa; omega), a1] at z
      exact absurd z (by decide)
  · obtain ⟨p1, p2, p3, p4, p5, p6, p7, p8, p9, p10, p11, p12, p13, p14, p15, p16, p17⟩ := id hn
    by_cases d0 : d.1 = 0
    · have w1 : hc.1 (34 + 11 * c) 8 = 0 := by rw [p12.1, d0]; rfl
      have w2 : hm.1 88 c = 0 := by rw [p13.1, d0]; rfl
      refine bc_f (by rw [s1]; decide) (bc_t' w1 ?_)
      refine k2 hm _ rfl (bz_t1 ⟨hic, bc_f' (by rw [hcl, s2]; decide) ?_⟩)
      exact bz_f1 (m_isOpen1 hc4 s2 (bz_t2 ⟨hic, bc_t' (by rw [hcl]; exact w2) ⟨rfl, hI⟩⟩))
    · have w1 : ¬ hc.1 (34 + 11 * c) 8 = 0 := by rw [p12.1, n0, n_ueq (by omega) (by omega)]; exact d0
      have w2 : ¬ hm.1 88 c = 0 := by rw [p13.1, n0, n_ueq (by omega) (by omega)]; exact d0
      refine bc_f (by rw [s1]; decide) (bc_f' w1 ?_)
      refine k_loseAll hc4 l1 l3.1 fun h1 e1 L1 e2 e3 => ?_
      refine bc_f' (by rw [e3 _ _ (by omega) (by omega), s1]; decide) ?_
      have E3 : ∀ a b, 34 ≤ a → h1.1 a b = hc.1 a b := fun a b z => e3 a b (by omega) (by omega)
      have cb1 : CB h1.1 (34 + 11 * c) (st, sp, e) := p8.fr (E3 _ _ (by omega)) (E3 _ _ (by omega)) fun a b _ _ => E3 _ _ (by omega)
      have cd1 : CD h1.1 (34 + 11 * c) d := ⟨(E3 _ _ (by omega)).trans p12.1, (E3 _ _ (by omega)).trans p12.2.1, (E3 _ _ (by omega)).trans p12.2.2.1, (E3 _ _ (by omega)).trans p12.2.2.2.1, (e3 _ _ (by omega) (by omega)).trans p12.2.2.2.2⟩
      refine k_waitNoLonger (by omega) ((E3 _ _ (by omega)).trans p6) p2.2 cb1 cd1 ⟨p16.2.1, p16.2.2⟩ p14 fun h2 g1 cb2 cd2 f1 => ?_
      refine k2 hm _ rfl (bz_t1 ⟨hic, bc_f' (by rw [hcl, s2]; decide) ?_⟩)
      refine bz_f1 (m_isOpen1 hc4 s2 (bz_t2 ⟨hic, bc_f' (by rw [hcl]; exact w2) ?_⟩))
      refine m_loseAll hc4 l2 l3.1 fun q1 f2 L2 f3 f4 => ?_
      refine bz_f2 ⟨hic, ?_⟩
      rw [hcl]
      have F4 : ∀ a b, 81 ≤ a → a ≤ 110 → q1.1 a b = hm.1 a b := fun a b z1 z2 => f4 a b (by unfold sDr; omega) (by omega)
      have S4 : ∀ a b, 81 ≤ a → a ≤ 110 → a ≠ 89 → (si q1 89 c (nI (orb d.2.1 d.2.2.1))).1 a b = hm.1 a b := fun a b z1 z2 z3 => (si_o z3 _).trans (F4 a b z1 z2)
      have mb1 : MB (si q1 89 c (nI (orb d.2.1 d.2.2.1))).1 c (st, sp, e) := p9.fr (S4 _ _ (by omega) (by omega) (by omega)) (S4 _ _ (by omega) (by omega) (by omega)) fun a b _ _ => S4 _ _ (by omega) (by omega) (by omega)
      have md1 : MD (si q1 89 c (nI (orb d.2.1 d.2.2.1))).1 c (d.1, orb d.2.1 d.2.2.1, d.2.2) := ⟨(S4 _ _ (by omega) (by omega) (by omega)).trans p13.1, si_s .., (S4 _ _ (by omega) (by omega) (by omega)).trans p13.2.2.1, (S4 _ _ (by omega) (by omega) (by omega)).trans p13.2.2.2.1, ((si_o (by decide) _).trans (f4 _ _ (by unfold sDr; omega) (by omega))).trans p13.2.2.2.2⟩
      have G : P_X9_giveUp (nI c) (si q1 89 c (nI (orb d.2.1 d.2.2.1))) (fun hm' => nI (rmA c k (k, X, 0)).2.2 = nI (rmA c k (k, X, 0)).2.2 ∧ InvW h2 hm') := by
        refine m_giveUp hc4 ((S4 _ _ (by omega) (by omega) (by omega)).trans p7) p2.2 mb1 md1 p14 fun g2 r1 mb2 md2 r4 => ⟨rfl, ?_⟩
        have go := gu_or (tr := tr) (g := d.2.2.1) (z := (e, d)) sp
        rw [go] at mb2 md2
        have C : ∀ a b, a ≠ 5 → ¬ (a = 4 ∧ b = 1) → ¬ sGu8 (34 + 11 * c) a b → h2.1 a b = hc.1 a b := fun a b z1 z2 z3 => (f1 a b z3).trans (e3 a b z1 z2)
        have M : ∀ a b, ¬ sDr a b → ¬ (a = 80 ∧ b = 1) → ¬ sGuM c a b → g2.1 a b = hm.1 a b := fun a b z1 z2 z3 => (r4 a b z3).trans (by rw [si_1, if_neg (fun y => z3 (by unfold sGuM; omega))]; exact f4 a b z1 z2)
        refine hI.up1 hc4 (fun a b z => C a b (fun y => z (by unfold tC; omega)) (fun y => z (by unfold tC; omega)) (fun y => z (by unfold tC; unfold sGu8 sGu at y; omega))) (fun a b z => M a b (fun y => z (by unfold tM; unfold sDr at y; omega)) (fun y => z (by unfold tM; omega)) (fun y => z (by unfold tM iN; unfold sGuM at y; omega))) (fun j hj => ?_) (Or.inl (Or.inr (Or.inr ⟨?_, ?_, hn.gg p14 cb2 mb2 cd2 md2 (orb_le _ _) (fun b hb => C _ _ (by omega) (by omega) (by unfold sGu8 sGu; omega)) (fun a b hb => C _ _ (by omega) (by omega) (by unfold sGu8 sGu; omega)) (fun a ha => M _ _ (by unfold sDr; omega) (by omega) (by unfold sGuM; omega)) (fun a b ha => M _ _ (by unfold sDr; omega) (by omega) (by unfold sGuM; omega))⟩))) (Or.inr ⟨fun a b z1 z2 => C a b (by omega) (by omega) (by unfold sGu8 sGu; omega), fun a b z => M a b (by have := iF_lo z; unfold sDr; omega) (by have := iF_lo z; omega) (by have := iF_lo z; unfold sGuM; omega)⟩) ?_
        · by_cases z : j = 1
          · subst z
            rw [f1 _ _ (by unfold sGu8 sGu; omega), e2, r4 _ _ (by unfold sGuM; omega), si_o (by decide), f3, hT.1 1 (by omega)]
          · by_cases z6 : j = 6
            · subst z6
              rw [cd2.2.2.2.2, md2.2.2.2.2]
            · rw [C 4 j (by omega) (by omega) (by unfold sGu8 sGu; omega), M 80 j (by unfold sDr; omega) (by omega) (by unfold sGuM; omega)]
              exact hT.1 j hj
        · rw [C _ _ (by omega) (by omega) (by unfold sGu8 sGu; omega)]; exact s1
        · rw [M _ _ (by unfold sDr; omega) (by omega) (by unfold sGuM; omega)]; exact s2
        · refine ⟨_, _, L1.fr (by rw [g1]) (fun a b z1 z2 => f1 _ _ (by unfold sGu8 sGu; omega)) (f1 _ _ (by unfold sGu8 sGu; omega)), L2.fr ok'.1 ((r4 _ _ (by unfold sGuM; omega)).trans (si_o (by decide) _)) (fun y => (r4 _ _ (by unfold sGuM; omega)).trans (si_o (by decide) _)) (fun y => (r4 _ _ (by unfold sGuM; omega)).trans (si_o (by decide) _)), ok'.chg (c := c) (fun d hd z => ⟨M _ _ (by unfold sDr; omega) (by omega) (by unfold sGuM; omega), M _ _ (by unfold sDr; omega) (by omega) (by unfold sGuM; omega)⟩) (fun i hi z => absurd z (non i hi)), fun z => ?_⟩
          rw [C 3 0 (by omega) (by omega) (by unfold sGu8 sGu; omega), a1] at z
          exact absurd z (by decide)
      have x89 : q1.1 89 c = nI d.2.1 := (F4 _ _ (by omega) (by omega)).trans p13.2.1
      have x90 : q1.1 90 c = nI d.2.2.1 := (F4 _ _ (by omega) (by omega)).trans p13.2.2.1
      by_cases b1 : d.2.1 = 0
      · refine bc_t' (by rw [x89, b1]; rfl) ⟨hic, ?_⟩
        by_cases b2 : d.2.2.1 = 0
        · refine bc_t (by rw [x90, b2]; rfl) ⟨hic, ?_⟩
          rw [show orb d.2.1 d.2.2.1 = 0 from if_pos ⟨b1, b2⟩] at G
          exact G
        · refine bc_f (by rw [x90, n0, n_ueq (by omega) (by omega)]; exact b2) ⟨hic, ?_⟩
          rw [show orb d.2.1 d.2.2.1 = 1 from if_neg (fun y => b2 y.2)] at G
          exact G
      · refine bc_f' (by rw [x89, n0, n_ueq (by omega) (by omega)]; exact b1) ⟨hic, ?_⟩
        rw [show orb d.2.1 d.2.2.1 = 1 from if_neg (fun y => b1 y.1)] at G
        exact G
