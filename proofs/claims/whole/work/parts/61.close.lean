/-! A letter is sent: what it leaves; close. -/
theorem RLt.add {hm h1 h2 g2 : HP} {k c : Nat} {X : Nat → LT} {x : LT} (l1 : CLs h1 k X) (l2 : MLs hm.1 k X) (l3 : LsOk hm.1 k X) (hk4 : k < 4) (hno : ∀ i, i < k → (X i).1.2.1 ≠ c) (hx : x.1.2.1 = c) (e2 : h2.2.1 = h1.2.1) (s5 : h2.1 5 2 = nI (k + 1)) (f2 : ∀ a b, 7 ≤ a → a ≤ 31 → (a < h1.2.1 k ∨ h1.2.1 k + 4 < a) → h2.1 a b = h1.1 a b) (cl : CLt h2.1 (h1.2.1 k) x) (g39 : g2.1 78 39 = nI (k + 1)) (m1 : ∀ y, y < 8 * k → g2.1 111 y = hm.1 111 y) (m2 : ∀ y, y < 32 * k → g2.1 112 y = hm.1 112 y) (ml : MLt g2.1 k x) (ok : LtOk x) (hd : ∀ d, d < 4 → d ≠ c → g2.1 81 d = hm.1 81 d ∧ g2.1 88 d = hm.1 88 d) (xs : XS g2.1 x) (a3 : h2.1 3 0 = 1) : RLt h2 g2 := by
  refine ⟨k + 1, adX k X x, l1.add hk4 e2 s5 f2 cl, l2.add hk4 l3.1 g39 m1 m2 ml, (l3.chg hd fun i hi z => absurd z (hno i hi)).add ok (fun i hi => by rw [hx]; exact hno i hi) xs, fun z => ?_⟩
  rw [a3] at z
  exact absurd z (by decide)
def sVa (N a b : Nat) : Prop := a = N ∧ (b = 1 ∨ (4 ≤ b ∧ b ≤ 10))
theorem k_vanish {N : Nat} {h : HP} {Q : HP → Prop} (hQ : ∀ h' : HP, h'.2 = h.2 → h'.1 N 1 = 0 → (∀ j, 4 ≤ j → j ≤ 10 → h'.1 N j = 0) → Fr (sVa N) h.1 h'.1 → Q h') : P_X3_vanish N h Q := by
  unfold P_X3_vanish
  refine hQ _ rfl ?_ (fun j j1 j2 => ?_) (fun a b z => ?_)
  · rw [si_p (by decide), si_p (by decide), si_p (by decide), si_p (by decide), si_p (by decide), si_p (by decide), si_p (by decide), si_s]
  · have : j = 4 ∨ j = 5 ∨ j = 6 ∨ j = 7 ∨ j = 8 ∨ j = 9 ∨ j = 10 := by omega
    rcases this with rfl | rfl | rfl | rfl | rfl | rfl | rfl <;> simp [si_1]
  · unfold sVa at z
    rw [si_1, if_neg (by omega), si_1, if_neg (by omega), si_1, if_neg (by omega), si_1, if_neg (by omega), si_1, if_neg (by omega), si_1, if_neg (by omega), si_1, if_neg (by omega), si_1, if_neg (by omega)]
theorem LsOk.no2 {g : Nat → Nat → Int32} {k c : Nat} {X : Nat → LT} (h : LsOk g k X) (h1 : g 81 c = 2) (h2 : g 88 c = 0) : ∀ i, i < k → (X i).1.2.1 ≠ c := by
  intro i hi z
  obtain ⟨x1, x2, x3⟩ := h.2.2 i hi
  have x0 := (h.1 i hi).1
  rw [z, h1] at x1 x2 x3
  rw [h2] at x2
  by_cases z1 : (X i).1.1 ≤ 1
  · exact absurd (x1 z1) (by decide)
  · by_cases z2 : (X i).1.1 ≤ 4
    · exact absurd (x2 (by omega) z2).2 (by decide)
    · exact absurd (x3 (by omega)) (by decide)
theorem o_close (i : Int32) : OpI (P_X8_close i) (P_X9_close i) InvW := by
  intro hc hm hI
  rcases cls_cases hI i with ⟨k1, k2⟩ | ⟨c, hc4, rfl, a1, k1, k2⟩
  · refine k1 _ (bz_f1 ?_)
    exact k2 hm _ rfl (bz_f1 ⟨rfl, hI⟩)
  · have hic : vp_in (nI c) 4 := n_in hc4 (by omega)
    have hcl : (nI c).toNatClampNeg = c := n_cl (by omega)
    refine k1 _ (bz_t1 ⟨hic, ?_⟩)
    rw [hcl]
    by_cases s2 : hm.1 81 c = 2
    · obtain ⟨w, tr, st, sp, e, qn, q, d, hn⟩ := st_opn hI hc4 s2
      obtain ⟨p1, p2, p3, p4, p5, p6, p7, p8, p9, p10, p11, p12, p13, p14, p15, p16, p17⟩ := id hn
      have s1 : hc.1 (34 + 11 * c) 1 = 2 := (st_eq hI hc4).trans s2
      refine bc_t' s1 ?_
      by_cases d0 : d.1 = 0
      · have w1 : hc.1 (34 + 11 * c) 8 = 0 := by rw [p12.1, d0]; rfl
        have w2 : hm.1 88 c = 0 := by rw [p13.1, d0]; rfl
        obtain ⟨k, X, l1, l2, l3, l4⟩ := hI.2.2.2.2.2
        have hno := l3.no2 s2 w2
        have hk4 := l3.lt4 l1.1 hc4 hno
        have hr := lc_ge l1 (show k < 5 by omega)
        refine bc_t w1 ?_
        refine k_undone p8 p14 ?_
        refine k_vanish fun h1 e1 v1 v2 f1 => ?_
        have er : h1.2.1 k = hc.2.1 k := by rw [e1]
        have l1' : CLs h1 k X := l1.fr (by rw [e1]) (fun a b z1 z2 => f1 a b (by unfold sVa; omega)) (f1 _ _ (by unfold sVa; omega))
        refine k_send l1' hk4 fun h2 e2 s5 s0 rr f2 => ?_
        obtain ⟨r0, r1, r2, r3, r4, r5, r6, r7⟩ := rr
        refine ⟨ty_L (l1'.2.2.1.1 k (by omega)), ?_⟩
        refine k2 hm _ rfl (bz_t1 (m_isOpen1 hc4 s2 (bz_t2 ⟨hic, ?_⟩)))
        rw [hcl]
        refine bc_t w2 ⟨hic, ?_⟩
        refine m_send (k := k) (by omega) ((si_o (by decide) _).trans l2.2.1) fun g2 e3 r3' g39 g80 f3 => ⟨hic, ?_⟩
        have C : ∀ a b, ¬ sVa (34 + 11 * c) a b → ¬ sSd (hc.2.1 k) a b → h2.1 a b = hc.1 a b := fun a b z1 z2 => (f2 a b (by rw [er]; exact z2)).trans (f1 a b z1)
        have M : ∀ a b, ¬ (a = 81 ∧ b = c) → ¬ sSnd k a b → g2.1 a b = hm.1 a b := fun a b z1 z2 => (f3 a b z2).trans (by rw [si_1, if_neg z1])
        have mb : MB g2.1 c (st, sp, e) := p9.fr (M _ _ (by omega) (by unfold sSnd; omega)) (M _ _ (by omega) (by unfold sSnd; omega)) (fun a b z1 z2 => M _ _ (by omega) (by unfold sSnd; omega))
        refine m_notDone hc4 mb p14 ⟨?_, ?_⟩
        · rw [p10.2.1, M _ _ (by omega) (by unfold sSnd; omega), p11.2.1]
        have hT := hI.2.2.1
        refine hI.up1 hc4 (fun a b z => C a b (fun y => z (by unfold tC; unfold sVa at y; omega)) (fun y => z (by unfold tC; unfold sSd at y; omega))) (fun a b z => M a b (fun y => z (by unfold tM iN; omega)) (fun y => z (by unfold tM; unfold sSnd at y; omega))) (fun j hj => ?_) (Or.inl (Or.inl ⟨?_, ?_, ?_⟩)) (Or.inr ⟨fun a b z1 z2 => C a b (by unfold sVa; omega) (by unfold sSd; omega), fun a b z => M a b (by have := iF_lo z; omega) (by have := iF_lo z; unfold sSnd; omega)⟩) ?_
        · by_cases z : j = 0
          · subst z
            rw [s0, g80, f1 4 0 (by unfold sVa; omega), si_o (by decide), hT.1 0 (by omega)]
          · rw [C 4 j (by unfold sVa; omega) (by unfold sSd; omega), M 80 j (by omega) (by unfold sSnd; omega)]
            exact hT.1 j hj
        · rw [f2 _ _ (by rw [er]; unfold sSd; omega)]; exact v1
        · rw [f2 _ _ (by rw [er]; unfold sSd; omega)]; exact v2 8 (by omega) (by omega)
        · rw [f3 _ _ (by unfold sSnd; omega), si_s]
        · refine RLt.add (hm := hm) (x := ((5, c, 0), (-1, -1, -1, -1, -1), fun _ => (0, 0, 0))) l1' l2 l3 hk4 hno rfl (by rw [e2]) s5 (fun a b z1 z2 z3 => f2 a b (by unfold sSd; omega)) ⟨r1, r5, r6, r3, fun z => absurd z (by simp), r0, r7, fun j hj => absurd hj (by simp)⟩ g39 (fun y hy => M _ _ (by omega) (by unfold sSnd; omega)) (fun y hy => M _ _ (by omega) (by unfold sSnd; omega)) ?_ ?_ (fun d hd z => ⟨M _ _ (by omega) (by unfold sSnd; omega), M _ _ (by omega) (by unfold sSnd; omega)⟩) ?_ ((C _ _ (by unfold sVa; omega) (by unfold sSd; omega)).trans a1)
          · obtain ⟨t1, t2, t3, t4, t5, t6, t7, t8⟩ := r3'
            exact ⟨t1, t2, t3, t4, t5, fun z => absurd z (by simp), t8, fun j hj => absurd hj (by simp)⟩
          · exact ⟨by simp, hc4, by simp, fun j hj => absurd hj (by simp), fun z => absurd z (by simp), fun z => absurd z (by simp), fun z => absurd z (by simp), fun z => absurd z (by simp)⟩
          · refine ⟨fun z => absurd z (by simp), fun _ z => absurd z (by simp), fun _ => ?_⟩
            show g2.1 81 c = 0
            rw [f3 _ _ (by unfold sSnd; omega), si_s]
      · have w1 : ¬ hc.1 (34 + 11 * c) 8 = 0 := by rw [p12.1, n0, n_ueq (by omega) (by omega)]; exact d0
        have w2 : ¬ hm.1 88 c = 0 := by rw [p13.1, n0, n_ueq (by omega) (by omega)]; exact d0
        refine bc_f w1 ?_
        exact k2 hm _ rfl (bz_t1 (m_isOpen1 hc4 s2 (bz_t2 ⟨hic, bc_f (by rw [hcl]; exact w2) ⟨rfl, hI⟩⟩)))
    · refine bc_f' (by rw [st_eq hI hc4]; exact s2) ?_
      exact k2 hm _ rfl (bz_t1 (m_isOpen0 hc4 s2 (bz_f2 ⟨rfl, hI⟩)))
