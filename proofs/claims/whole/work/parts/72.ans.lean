/-! deliver: ANSWER, ASK, BAR. -/
theorem d_ans {hc hm h1 : HP} {k p : Nat} {X : Nat → LT} {R : HP → Prop} (D : DCx hc hm h1 k p X) (hs : (X p).1.1 = 4) (hR : ∀ h' : HP, P_X9_comesOther (nI p) hm (fun hm' => (1 : Int32) = 1 ∧ InvW h' hm') → R h') : P_X8_arrives (hc.2.1 p) h1 R := by
  obtain ⟨hI, hp, l1, l2, l3, a1, L1, -, E1⟩ := D
  have hk := l1.1
  have hr := lc_ge l1 (show p < 5 by omega)
  have cl : CLt h1.1 (hc.2.1 p) (X p) := (l1.2.2.2 p hp).fr fun a b z1 z2 => E1 a b (by omega)
  have hT := hI.2.2.1
  obtain ⟨c, hcx⟩ : ∃ c, (X p).1.2.1 = c := ⟨_, rfl⟩
  have hc4 : c < 4 := by rw [← hcx]; exact (l3.1 p hp).2.1
  obtain ⟨s2, s88⟩ : hm.1 81 c = 2 ∧ hm.1 88 c = 1 := by rw [← hcx]; exact (l3.2.2 p hp).2.1 (by omega) (by omega)
  obtain ⟨nb, bi, n1, n2, n3, n4'⟩ := (l3.1 p hp).2.2.2.2.2.2.2 hs
  obtain ⟨w, tr, st, sp, e, qn, q, d, hn⟩ := st_opn hI hc4 s2
  obtain ⟨p1, p2, p3, p4, p5, p6, p7, p8, p9, p10, p11, p12, p13, p14, p15, p16, p17⟩ := id hn
  have s1 : hc.1 (34 + 11 * c) 1 = 2 := (st_eq hI hc4).trans s2
  have d1 : d.1 = 1 := by
    have z := p13.1
    rw [s88, show (1 : Int32) = nI 1 from rfl, n_ueq (by omega) (by omega)] at z
    exact z.symm
  have E : ∀ a b, 34 ≤ a → h1.1 a b = hc.1 a b := fun a b z => E1 a b (by omega)
  refine k_arr cl (l3.1 p hp) hs hcx (fun z => absurd z (by decide)) (fun z => absurd z (by decide)) (fun z => absurd z (by decide)) (fun _ => ?_) (fun z => absurd z (by decide))
  rw [cl.2.1, cl.2.2.1, n1, n3]
  refine k_answered (N := 34 + 11 * c) (by omega) ((E _ _ (by omega)).trans p4) ((E _ _ (by omega)).trans p6) p1.2 p2.2 n2 n4' d1 (p8.fr (E _ _ (by omega)) (E _ _ (by omega)) fun a b _ _ => E _ _ (by omega)) ⟨(E _ _ (by omega)).trans p12.1, (E _ _ (by omega)).trans p12.2.1, (E _ _ (by omega)).trans p12.2.2.1, (E _ _ (by omega)).trans p12.2.2.2.1, (E1 _ _ (by omega)).trans p12.2.2.2.2⟩ p14 fun h2 e2 cb cd f2 => hR _ ?_
  refine m_oth l2 l3.1 hp hs hcx fun g1 e1 L2 f1 => ⟨fun z => absurd z (by decide), fun z => absurd z (by decide), fun z => absurd z (by decide), fun z => absurd z (by decide), fun _ => ?_⟩
  rw [n1, n3]
  have F : ∀ a b, 80 ≤ a → a ≤ 110 → g1.1 a b = hm.1 a b := fun a b z1 z2 => f1 a b (by unfold sDr; omega)
  refine m_answered (c := c) hc4 ((F _ _ (by omega) (by omega)).trans s2) ((F _ _ (by omega) (by omega)).trans p5) ((F _ _ (by omega) (by omega)).trans p7) p1.2 p2.2 n2 n4' d1 (p9.fr (F _ _ (by omega) (by omega)) (F _ _ (by omega) (by omega)) fun a b _ _ => F _ _ (by omega) (by omega)) ⟨(F _ _ (by omega) (by omega)).trans p13.1, (F _ _ (by omega) (by omega)).trans p13.2.1, (F _ _ (by omega) (by omega)).trans p13.2.2.1, (F _ _ (by omega) (by omega)).trans p13.2.2.2.1, (F _ _ (by omega) (by omega)).trans p13.2.2.2.2⟩ p14 fun g2 e3 mb md f3 => ⟨rfl, ?_⟩
  have C : ∀ a b, a ≠ 5 → ¬ sGu8 (34 + 11 * c) a b → h2.1 a b = hc.1 a b := fun a b z1 z2 => (f2 a b z2).trans (E1 a b z1)
  have M : ∀ a b, ¬ sDr a b → ¬ sGuM c a b → g2.1 a b = hm.1 a b := fun a b z1 z2 => (f3 a b z2).trans (f1 a b z1)
  have gd := gu_d (tr := tr) (z := (an w nb bi st sp e, d)) sp
  have hbd : (gu tr sp (an w nb bi st sp e, d)).2.2.1 ≤ 1 := by
    rcases gd.2.2 with z | z
    · rw [z]; exact p16.2.1
    · rw [z]; exact Nat.le_refl _
  refine (rem_inv hI l3 hp a1 hcx (L1.fr (by rw [e2]) (fun a b z1 z2 => f2 _ _ (by unfold sGu8 sGu; omega)) (f2 _ _ (by unfold sGu8 sGu; omega))) (L2.fr (l3.rm hp).1.1 (f3 _ _ (by unfold sGuM; omega)) (fun y => f3 _ _ (by unfold sGuM; omega)) (fun y => f3 _ _ (by unfold sGuM; omega))) (fun a b z => C a b (fun y => z (by unfold tC; omega)) (fun y => z (by unfold tC; unfold sGu8 sGu at y; omega))) (fun a b z => M a b (fun y => z (by unfold tM; unfold sDr at y; omega)) (fun y => z (by unfold tM iN; unfold sGuM at y; omega))) (fun j hj => ?_) (Or.inl (Or.inr (Or.inr ⟨?_, ?_, hn.gg (an_ok p14 sp) cb mb cd md hbd (fun b hb => C _ _ (by omega) (by unfold sGu8 sGu; omega)) (fun a b hb => C _ _ (by omega) (by unfold sGu8 sGu; omega)) (fun a ha => M _ _ (by unfold sDr; omega) (by unfold sGuM; omega)) (fun a b ha => M _ _ (by unfold sDr; omega) (by unfold sGuM; omega))⟩))) (Or.inr ⟨fun a b z1 z2 => C a b (by omega) (by unfold sGu8 sGu; omega), fun a b z => M a b (by have := iF_lo z; unfold sDr; omega) (by have := iF_lo z; unfold sGuM; omega)⟩)).1
  · by_cases z6 : j = 6
    · subst z6; rw [cd.2.2.2.2, md.2.2.2.2]
    · rw [C _ _ (by omega) (by unfold sGu8 sGu; omega), M _ _ (by unfold sDr; omega) (by unfold sGuM; omega)]; exact hT.1 j hj
  · rw [C _ _ (by omega) (by unfold sGu8 sGu; omega)]; exact s1
  · rw [M _ _ (by unfold sDr; omega) (by unfold sGuM; omega)]; exact s2
