/-! bundle. -/
theorem fx_ok {tr st : Nat} {U : Nat → NU} : ∀ n, (∀ k, k < n → EOk tr (U k)) → ∀ j, j < cu U n → (fx st U n j).1 < 64 ∧ (fx st U n j).2.1 ≤ 999 ∧ (fx st U n j).2.2 ≤ 20 := by
  intro n
  induction n with
  | zero => exact fun _ j hj => absurd hj (Nat.not_lt_zero j)
  | succ n ih =>
    intro hU j hj
    have hj' : j < cu U n + if (U n).2.2.2 = 0 then 1 else 0 := hj
    show ((if (U n).2.2.2 = 0 then upG (fx st U n) (cu U n) ((st + n) % 64, (U n).1, (U n).2.1) else fx st U n) j).1 < 64 ∧ ((if (U n).2.2.2 = 0 then upG (fx st U n) (cu U n) ((st + n) % 64, (U n).1, (U n).2.1) else fx st U n) j).2.1 ≤ 999 ∧ ((if (U n).2.2.2 = 0 then upG (fx st U n) (cu U n) ((st + n) % 64, (U n).1, (U n).2.1) else fx st U n) j).2.2 ≤ 20
    by_cases z : (U n).2.2.2 = 0
    · rw [if_pos z] at hj' ⊢
      by_cases zj : j = cu U n
      · rw [zj, upG_s]
        obtain ⟨u1, u2, -⟩ := hU n (by omega)
        exact ⟨Nat.mod_lt _ (by omega), u1.2, u2.2⟩
      · rw [upG_o zj]
        exact ih (fun k hk => hU k (by omega)) j (by omega)
    · rw [if_neg z] at hj' ⊢
      exact ih (fun k hk => hU k (by omega)) j (by omega)
theorem ew_ok {tr sp qn K : Nat} {e : Nat → NU} {q : Nat → Nat × Nat} (h1 : 1 ≤ tr) (hok : ∀ k, k < sp → EOk tr (e k)) (hq : QOk qn q) (hK : K ≤ sp + qn) (h17 : ∀ k, k < sp → (e k).2.2.2 = 0 → (e k).2.2.1 < tr) : ∀ k, k < max sp K → EOk tr (ew K (UU sp e q) k) := by
  intro k hk
  have hu := UU_ok (k := k) hok hq (by omega)
  unfold ew
  by_cases z : k < K ∧ (UU sp e q k).2.2.2 = 0
  · rw [if_pos z]
    refine ⟨hu.1, hu.2.1, ?_, Nat.zero_le _⟩
    show (UU sp e q k).2.2.1 + 1 ≤ tr
    by_cases zk : k < sp
    · have z2 := z.2
      rw [UU_lo zk] at z2 ⊢
      exact h17 k zk z2
    · rw [UU_hi (by omega)]; exact h1
  · rw [if_neg z]; exact hu
theorem o_bundle (i : Int32) : OpI (P_X8_bundle i) (P_X9_bundle i) InvW := by
  intro hc hm hI
  rcases cls_cases hI i with ⟨k1, k2⟩ | ⟨c, hc4, rfl, a1, k1, k2⟩
  · refine k1 _ (bz_f1 ?_)
    exact k2 hm _ rfl (bz_f1 ⟨rfl, hI⟩)
  have hic : vp_in (nI c) 4 := n_in hc4 (by omega)
  have hcl : (nI c).toNatClampNeg = c := n_cl (by omega)
  have hT := hI.2.2.1
  have hA := hI.2.1
  refine k1 _ (bz_t1 ⟨hic, ?_⟩)
  rw [hcl]
  by_cases s2 : hm.1 81 c = 2
  case neg =>
    refine bc_f' (by rw [st_eq hI hc4]; exact s2) ?_
    exact k2 hm _ rfl (bz_t1 (m_isOpen0 hc4 s2 (bz_f2 ⟨rfl, hI⟩)))
  obtain ⟨w, tr, st, sp, e, qn, q, d, hn⟩ := st_opn hI hc4 s2
  obtain ⟨p1, p2, p3, p4, p5, p6, p7, p8, p9, p10, p11, p12, p13, p14, p15, p16, p17⟩ := id hn
  have s1 : hc.1 (34 + 11 * c) 1 = 2 := (st_eq hI hc4).trans s2
  have b1 : st < 64 := p8.1
  refine bc_t' s1 ?_
  by_cases d0 : d.1 = 0
  case neg =>
    have w1 : ¬ hc.1 (34 + 11 * c) 8 = 0 := by rw [p12.1, n0, n_ueq (by omega) (by omega)]; exact d0
    have w2 : ¬ hm.1 88 c = 0 := by rw [p13.1, n0, n_ueq (by omega) (by omega)]; exact d0
    refine bc_f' w1 ?_
    exact k2 hm _ rfl (bz_t1 (m_isOpen1 hc4 s2 (bz_t2 ⟨hic, bc_f' (by rw [hcl]; exact w2) ⟨rfl, hI⟩⟩)))
  have w1 : hc.1 (34 + 11 * c) 8 = 0 := by rw [p12.1, d0]; rfl
  have w2 : hm.1 88 c = 0 := by rw [p13.1, d0]; rfl
  refine bc_t' w1 ?_
  obtain ⟨lf, f1, f2, f3⟩ := air_left hA a1
  refine f1 hc _ (fun _ => rfl) ?_
  by_cases lz : lf ≤ 0
  · refine bc_t lz (bz_f1 ?_)
    exact k2 hm _ rfl (bz_t1 (m_isOpen1 hc4 s2 (bz_t2 ⟨hic, bc_t' (by rw [hcl]; exact w2) (f2 hm _ (fun _ _ => rfl) (bc_t' (f3 lz) ⟨rfl, hI⟩))⟩)))
  have lz' : ¬ lf = 0 := fun y => lz (by rw [y]; exact Int32.le_refl _)
  refine bc_f lz (bz_t1 ?_)
  obtain ⟨k, X, l1, l2, l3, l4⟩ := hI.2.2.2.2.2
  have hno := l3.no2 s2 w2
  have hk4 := l3.lt4 l1.1 hc4 hno
  have hr := lc_ge l1 (show k < 5 by omega)
  by_cases bd : d.2.1 = 0
  case neg =>
    refine bc_f (by rw [p12.2.1, n0, n_ueq (by omega) (by omega)]; exact bd) ?_
    refine k_send l1 hk4 fun h2 e2 s5 s0 rr f5 => ?_
    obtain ⟨r0, r1, r2, r3, r4, r5, r6, r7⟩ := rr
    refine ⟨ty_L (l1.2.2.1.1 k (by omega)), ?_⟩
    have x4 : h2.1 (34 + 11 * c) 4 = nI st := (f5 _ _ (by unfold sSd; omega)).trans p8.2.2.1
    rw [x4]
    show P_X3_barGoes _ _ _
    unfold P_X3_barGoes
    refine k2 hm _ rfl (bz_t1 (m_isOpen1 hc4 s2 (bz_t2 ⟨hic, bc_t' (by rw [hcl]; exact w2) (f2 hm _ (fun _ _ => rfl) (bc_f' lz' ⟨hic, bc_f ?_ ⟨hic, ?_⟩⟩))⟩)))
    · rw [hcl, p13.2.1, n0, n_ueq (by omega) (by omega)]; exact bd
    rw [hcl]
    refine m_send (k := k) (by omega) l2.2.1 fun g2 e3 r3' g39 g80 f6 => ⟨hic, hic, hic, rfl, ?_⟩
    have C0 : ∀ a b, ¬ (a = hc.2.1 k ∧ b = 5) → ¬ (a = 34 + 11 * c ∧ 8 ≤ b ∧ b ≤ 10) → (si (si (si (si h2 (hc.2.1 k) 5 (nI st)) (34 + 11 * c) 8 1) (34 + 11 * c) 9 0) (34 + 11 * c) 10 1).1 a b = h2.1 a b := fun a b z1 z2 => by
      rw [si_1, if_neg (by omega), si_1, if_neg (by omega), si_1, if_neg (by omega), si_1, if_neg z1]
    have C : ∀ a b, ¬ sSd (hc.2.1 k) a b → ¬ (a = 34 + 11 * c ∧ 8 ≤ b ∧ b ≤ 10) → (si (si (si (si h2 (hc.2.1 k) 5 (nI st)) (34 + 11 * c) 8 1) (34 + 11 * c) 9 0) (34 + 11 * c) 10 1).1 a b = hc.1 a b := fun a b z1 z2 => (C0 a b (fun y => z1 (by unfold sSd; omega)) z2).trans (f5 a b z1)
    have M0 : ∀ a b, ¬ ((a = 88 ∨ a = 89 ∨ a = 90) ∧ b = c) → (si (si (si g2 89 c 0) 90 c 1) 88 c 1).1 a b = g2.1 a b := fun a b z => by
      rw [si_1, if_neg (by omega), si_1, if_neg (by omega), si_1, if_neg (by omega)]
    have M : ∀ a b, ¬ sSnd k a b → ¬ ((a = 88 ∨ a = 89 ∨ a = 90) ∧ b = c) → (si (si (si g2 89 c 0) 90 c 1) 88 c 1).1 a b = hm.1 a b := fun a b z1 z2 => (M0 a b z2).trans (f6 a b z1)
    have m81 : (si (si (si g2 89 c 0) 90 c 1) 88 c 1).1 81 c = 2 := (M _ _ (by unfold sSnd; omega) (by omega)).trans s2
    refine hI.up1 hc4 (fun a b z => C a b (fun y => z (by unfold tC; unfold sSd at y; omega)) (fun y => z (by unfold tC; omega))) (fun a b z => M a b (fun y => z (by unfold tM; unfold sSnd at y; omega)) (fun y => z (by unfold tM iN; omega))) (fun j hj => ?_) (Or.inl (Or.inr (Or.inr ⟨(C _ _ (by unfold sSd; omega) (by omega)).trans s1, m81, w, tr, st, sp, e, qn, q, (1, 0, 1, d.2.2.2.1, d.2.2.2.2), p1, p2, p3, (C _ _ (by unfold sSd; omega) (by omega)).trans p4, (M _ _ (by unfold sSnd; omega) (by omega)).trans p5, (C _ _ (by unfold sSd; omega) (by omega)).trans p6, (M _ _ (by unfold sSnd; omega) (by omega)).trans p7, p8.fr (C _ _ (by unfold sSd; omega) (by omega)) (C _ _ (by unfold sSd; omega) (by omega)) (fun a s _ _ => C _ _ (by unfold sSd; omega) (by omega)), p9.fr (M _ _ (by unfold sSnd; omega) (by omega)) (M _ _ (by unfold sSnd; omega) (by omega)) (fun a s _ _ => M _ _ (by unfold sSnd; omega) (by omega)), ⟨p10.1, (C _ _ (by unfold sSd; omega) (by omega)).trans p10.2.1, fun i hi => ⟨(C _ _ (by unfold sSd; omega) (by omega)).trans (p10.2.2 i hi).1, (C _ _ (by unfold sSd; omega) (by omega)).trans (p10.2.2 i hi).2⟩⟩, ⟨p11.1, (M _ _ (by unfold sSnd; omega) (by omega)).trans p11.2.1, fun i hi => ⟨(M _ _ (by unfold sSnd; omega) (by omega)).trans (p11.2.2 i hi).1, (M _ _ (by unfold sSnd; omega) (by omega)).trans (p11.2.2 i hi).2⟩⟩, ⟨?_, ?_, ?_, (C _ _ (by unfold sSd; omega) (by omega)).trans p12.2.2.2.1, (C _ _ (by unfold sSd; omega) (by omega)).trans p12.2.2.2.2⟩, ⟨si_s .., ?_, ?_, (M _ _ (by unfold sSnd; omega) (by omega)).trans p13.2.2.2.1, (M _ _ (by unfold sSnd; omega) (by omega)).trans p13.2.2.2.2⟩, p14, p15, ⟨by simp, by simp, by simp⟩, fun z => absurd z (by simp)⟩))) (Or.inr ⟨fun a b z1 z2 => C a b (by unfold sSd; omega) (by omega), fun a b z => M a b (by have := iF_lo z; unfold sSnd; omega) (by have := iF_lo z; omega)⟩) ?_
    · by_cases z : j = 0
      · subst z
        rw [C0 _ _ (by omega) (by omega), s0, M0 _ _ (by omega), g80, hT.1 0 (by omega)]
      · rw [C 4 j (by unfold sSd; omega) (by omega), M 80 j (by unfold sSnd; omega) (by omega)]
        exact hT.1 j hj
    · rw [si_p (by decide), si_p (by decide), si_s]; rfl
    · rw [si_p (by decide), si_s]; rfl
    · rw [si_s]; rfl
    · rw [si_o (by decide), si_o (by decide), si_s]; rfl
    · rw [si_o (by decide), si_s]; rfl
    · refine RLt.add (hm := hm) (c := c) (x := ((3, c, 0), (nI st, -1, -1, -1, -1), fun _ => (0, 0, 0))) l1 l2 l3 hk4 hno rfl (by rw [si_2, si_2, si_2, si_2, e2]) (by rw [C0 _ _ (by omega) (by omega)]; exact s5) (fun a b z1 z2 z3 => (C0 _ _ (by omega) (by omega)).trans (f5 a b (by unfold sSd; omega))) ?_ (by rw [M0 _ _ (by omega)]; exact g39) (fun y hy => M _ _ (by unfold sSnd; omega) (by omega)) (fun y hy => M _ _ (by unfold sSnd; omega) (by omega)) ?_ ?_ (fun d hd z => ⟨M _ _ (by unfold sSnd; omega) (by omega), M _ _ (by unfold sSnd; omega) (by omega)⟩) ?_ ((C _ _ (by unfold sSd; omega) (by omega)).trans a1)
      · refine ⟨(C0 _ _ (by omega) (by omega)).trans r1, ?_, (C0 _ _ (by omega) (by omega)).trans r6, (C0 _ _ (by omega) (by omega)).trans r3, fun z => absurd z (by simp), (C0 _ _ (by omega) (by omega)).trans r0, (C0 _ _ (by omega) (by omega)).trans r7, fun j hj => absurd hj (by simp)⟩
        rw [si_o (by omega), si_o (by omega), si_o (by omega), si_s]
      · obtain ⟨t1, t2, t3, t4, t5, t6, t7, t8⟩ := r3'
        rw [p9.2.2.1] at t3
        exact ⟨(M0 _ _ (by omega)).trans t1, (M0 _ _ (by omega)).trans t2, (M0 _ _ (by omega)).trans t3, (M0 _ _ (by omega)).trans t4, (M0 _ _ (by omega)).trans t5, fun z => absurd z (by simp), (M0 _ _ (by omega)).trans t8, fun j hj => absurd hj (by simp)⟩
      · exact ⟨by simp, hc4, by simp, fun j hj => absurd hj (by simp), fun z => absurd z (by simp), fun z => absurd z (by simp), fun _ => ⟨st, rfl, b1⟩, fun z => absurd z (by simp)⟩
      · exact ⟨fun z => absurd z (by simp), fun _ _ => ⟨m81, si_s ..⟩, fun z => absurd z (by simp)⟩
  refine bc_t (by rw [p12.2.1, bd]; rfl) ?_
  refine f1 hc _ (fun _ => rfl) ?_
  rcases hA.2 with ⟨z, -⟩ | ⟨-, on, off, rt, bnd, q1, q2, q3, q4, q5, q6, q7, q8, q9⟩
  · rw [a1] at z; exact absurd z (by decide)
  have x34 : hc.1 3 4 = nI bnd := (hA.1 3 (by omega)).trans q4
  have x33 : hc.1 3 3 = hm.1 78 2 := hA.1 2 (by omega)
  rw [x34, x33]
  refine k_bundleSize p4 p3 p1.2 q9 p8 p10 p14 p15 ?_
  have hU : ∀ k, sp ≤ k → (UU sp e q k).2.2.2 = 0 := fun k hk => by rw [UU_hi hk]
  have w9 : hm.1 89 c = 0 := by rw [p13.2.1, bd]; rfl
  by_cases mz : (pl bnd w sp (hm.1 78 2 * lf) (UU sp e q) (sp + qn)).1 = 0
  · refine bc_t' (by rw [mz]; rfl) ?_
    refine k2 hm _ rfl (bz_t1 (m_isOpen1 hc4 s2 (bz_t2 ⟨hic, bc_t' (by rw [hcl]; exact w2) (f2 hm _ (fun _ _ => rfl) (bc_f' lz' ⟨hic, bc_t (by rw [hcl]; exact w9) ?_⟩))⟩)))
    refine m_plan hc4 q4 q9 f2 rfl p5 p3 p1.2 p9 p11 p14 p15 fun g1 e1 pr fr => ?_
    refine bc_t' (by rw [pr.1, mz]; rfl) ⟨rfl, ?_⟩
    have M : ∀ a b, ¬ sPl a b → g1.1 a b = hm.1 a b := fr
    exact hI.up1 hc4 Fr.rf (fun a b z => M a b (fun y => z (by unfold tM; unfold sPl at y; omega))) (fun j hj => by rw [M _ _ (by unfold sPl; omega)]; exact hT.1 j hj) (Or.inr ⟨fun _ _ _ _ => rfl, fun a b z => M _ _ (by have := iN_lo z; unfold sPl; omega)⟩) (Or.inr ⟨fun _ _ _ _ => rfl, fun a b z => M _ _ (by have := iF_lo z; unfold sPl; omega)⟩) (hI.2.2.2.2.2.fr rfl (fun _ _ _ _ => rfl) rfl rfl (M _ _ (by unfold sPl; omega)) (fun b => M _ _ (by unfold sPl; omega)) (fun b => M _ _ (by unfold sPl; omega)) (fun d _ => M _ _ (by unfold sPl; omega)) (fun d _ => M _ _ (by unfold sPl; omega)))
  obtain ⟨K, K1, K2, K3, K4, K5, K6, K7, K8⟩ := pl_K p3 hU (T := sp + qn) (Nat.pos_of_ne_zero mz)
  obtain ⟨m, em⟩ : ∃ m, (pl bnd w sp (hm.1 78 2 * lf) (UU sp e q) (sp + qn)).1 = m := ⟨_, rfl⟩
  rw [em] at mz K4 K5 K7
  rw [em]
  have hm8 : m ≤ 8 := by omega
  refine bc_f' (by rw [n0, n_ueq (by omega) (by omega)]; exact mz) ?_
  refine k_send l1 hk4 fun h2 e2 s5 s0 rr f5 => ?_
  obtain ⟨r0, r1, r2, r3, r4, r5, r6, r7⟩ := rr
  refine ⟨ty_L (l1.2.2.1.1 k (by omega)), ?_⟩
  have S : ∀ a b, 34 ≤ a → h2.1 a b = hc.1 a b := fun a b z => f5 a b (by unfold sSd; omega)
  have cq2 : CQ h2.1 (34 + 11 * c) qn q := ⟨p10.1, (S _ _ (by omega)).trans p10.2.1, fun i hi => ⟨(S _ _ (by omega)).trans (p10.2.2 i hi).1, (S _ _ (by omega)).trans (p10.2.2 i hi).2⟩⟩
  refine k_bundleGoes (K := K) (tr := tr) hc4 (by omega) (by omega) ((S _ _ (by omega)).trans p4) p3 p1.2 p2.2 (p8.fr (S _ _ (by omega)) (S _ _ (by omega)) (fun a b _ _ => S _ _ (by omega))) cq2 p14 p15 ⟨r0, r7, fun j hj => absurd hj (by omega)⟩ K2 K3 K4 K5 hm8 fun h3 e3 cb cq' cf t8 t10 f6 => ?_
  refine k2 hm _ rfl (bz_t1 (m_isOpen1 hc4 s2 (bz_t2 ⟨hic, bc_t' (by rw [hcl]; exact w2) (f2 hm _ (fun _ _ => rfl) (bc_f' lz' ⟨hic, bc_t (by rw [hcl]; exact w9) ?_⟩))⟩)))
  refine m_plan hc4 q4 q9 f2 rfl p5 p3 p1.2 p9 p11 p14 p15 fun g1 e1 pr fr => ?_
  have P : ∀ a b, a ≠ 78 → g1.1 a b = hm.1 a b := fun a b z => fr a b (fun y => z y.1)
  have pr1 : g1.1 78 42 = nI m := by rw [pr.1, em]
  refine bc_f' (by rw [pr1, n0, n_ueq (by omega) (by omega)]; exact mz) ?_
  have mq1 : MQu g1.1 c qn q := ⟨p11.1, (P _ _ (by omega)).trans p11.2.1, fun i hi => ⟨(P _ _ (by omega)).trans (p11.2.2 i hi).1, (P _ _ (by omega)).trans (p11.2.2 i hi).2⟩⟩
  refine m_sendBundle (k := k) (K := K) (tr := tr) hc4 (by omega) pr1 (by rw [pr.2.2.1, K6]) ((fr _ _ (by unfold sPl; omega)).trans l2.2.1) (p9.fr (P _ _ (by omega)) (P _ _ (by omega)) (fun a b _ _ => P _ _ (by omega))) mq1 p14 p15 p2.2 (by omega) K3 K4 K5 hm8 fun g2 e5 mb mq rm mf g39 g80 g802 g88 g90 fr2 => ⟨rfl, ?_⟩
  have C0 : ∀ a b, ¬ (a = 4 ∧ b = 2) → (si h3 4 2 (h3.1 4 2 + nI m)).1 a b = h3.1 a b := fun a b z => by rw [si_1, if_neg z]
  have C : ∀ a b, ¬ sSd (hc.2.1 k) a b → ¬ sGo (34 + 11 * c) (hc.2.1 k) a b → ¬ (a = 4 ∧ b = 2) → (si h3 4 2 (h3.1 4 2 + nI m)).1 a b = hc.1 a b := fun a b z1 z2 z3 => (C0 a b z3).trans ((f6 a b z2).trans (f5 a b z1))
  have M : ∀ a b, ¬ sPl a b → ¬ sGoM c k a b → g2.1 a b = hm.1 a b := fun a b z1 z2 => (fr2 a b z2).trans (fr a b z1)
  have m81 : g2.1 81 c = 2 := (M _ _ (by unfold sPl; omega) (by unfold sGoM sGvM sSnd; omega)).trans s2
  refine hI.up1 hc4 (fun a b z => C a b (fun y => z (by unfold tC; unfold sSd at y; omega)) (fun y => z (by unfold tC; unfold sGo sBind at y; omega)) (fun y => z (by unfold tC; omega))) (fun a b z => M a b (fun y => z (by unfold tM; unfold sPl at y; omega)) (fun y => z (by unfold tM iN; unfold sGoM sGvM sSnd at y; omega))) (fun j hj => ?_) (Or.inl (Or.inr (Or.inr ⟨?_, m81, w, tr, st, max sp K, ew K (UU sp e q), qn - (K - sp), fun i => q (i + (K - sp)), (1, d.2.1, 0, d.2.2.2.1, d.2.2.2.2), p1, p2, by omega, ?_, ?_, ?_, ?_, ?_, mb, ?_, mq, ⟨?_, ?_, ?_, ?_, ?_⟩, ⟨g88, ?_, g90, ?_, ?_⟩, ew_ok p2.1 p14 p15 K3 (p17 d0), fun i hi => p15 _ (by omega), ⟨by simp, p16.2.1, by simp⟩, fun z => absurd z (by simp)⟩))) (Or.inr ⟨fun a b z1 z2 => C a b (by unfold sSd; omega) (by unfold sGo sBind; omega) (by omega), fun a b z => M a b (by have := iF_lo z; unfold sPl; omega) (by have := iF_lo z; unfold sGoM sGvM sSnd; omega)⟩) ?_
  · by_cases z : j = 0
    · subst z
      rw [C0 _ _ (by omega), f6 _ _ (by unfold sGo sBind; omega), s0, g80, P _ _ (by omega), hT.1 0 (by omega)]
    · by_cases z2 : j = 2
      · subst z2
        rw [si_s, f6 _ _ (by unfold sGo sBind; omega), f5 _ _ (by unfold sSd; omega), g802, P _ _ (by omega), hT.1 2 (by omega)]
      · rw [C 4 j (by unfold sSd; omega) (by unfold sGo sBind; omega) (by omega), M 80 j (by unfold sPl; omega) (by unfold sGoM sGvM sSnd; omega)]
        exact hT.1 j hj
  · rw [C _ _ (by unfold sSd; omega) (by unfold sGo sBind; omega) (by omega)]; exact s1
  · rw [C _ _ (by unfold sSd; omega) (by unfold sGo sBind; omega) (by omega)]; exact p4
  · rw [M _ _ (by unfold sPl; omega) (by unfold sGoM sGvM sSnd; omega)]; exact p5
  · rw [C _ _ (by unfold sSd; omega) (by unfold sGo sBind; omega) (by omega)]; exact p6
  · rw [M _ _ (by unfold sPl; omega) (by unfold sGoM sGvM sSnd; omega)]; exact p7
  · exact cb.fr (C0 _ _ (by omega)) (C0 _ _ (by omega)) fun a b _ _ => C0 _ _ (by omega)
  · exact ⟨cq'.1, (C0 _ _ (by omega)).trans cq'.2.1, fun i hi => ⟨(C0 _ _ (by omega)).trans (cq'.2.2 i hi).1, (C0 _ _ (by omega)).trans (cq'.2.2 i hi).2⟩⟩
  · exact (C0 _ _ (by omega)).trans t8
  · rw [C _ _ (by unfold sSd; omega) (by unfold sGo sBind; omega) (by omega)]; exact p12.2.1
  · exact (C0 _ _ (by omega)).trans t10
  · rw [C _ _ (by unfold sSd; omega) (by unfold sGo sBind; omega) (by omega)]; exact p12.2.2.2.1
  · rw [C _ _ (by unfold sSd; omega) (by unfold sGo sBind; omega) (by omega)]; exact p12.2.2.2.2
  · rw [M _ _ (by unfold sPl; omega) (by unfold sGoM sGvM sSnd; omega)]; exact p13.2.1
  · rw [M _ _ (by unfold sPl; omega) (by unfold sGoM sGvM sSnd; omega)]; exact p13.2.2.2.1
  · rw [M _ _ (by unfold sPl; omega) (by unfold sGoM sGvM sSnd; omega)]; exact p13.2.2.2.2
  · refine RLt.add (hm := hm) (c := c) (x := ((2, c, m), (-1, -1, -1, -1, -1), fx st (UU sp e q) K)) l1 l2 l3 hk4 hno rfl (by rw [si_2, e3, e2]) ?_ (fun a b z1 z2 z3 => (C0 _ _ (by omega)).trans ((f6 a b (by unfold sGo sBind; omega)).trans (f5 a b (by unfold sSd; omega)))) ?_ g39 (fun y hy => M _ _ (by unfold sPl; omega) (by unfold sGoM sGvM sSnd; omega)) (fun y hy => M _ _ (by unfold sPl; omega) (by unfold sGoM sGvM sSnd; omega)) ?_ ?_ (fun d hd z => ⟨M _ _ (by unfold sPl; omega) (by unfold sGoM sGvM sSnd; omega), M _ _ (by unfold sPl; omega) (by unfold sGoM sGvM sSnd; omega)⟩) ?_ ((C _ _ (by unfold sSd; omega) (by unfold sGo sBind; omega) (by omega)).trans a1)
    · rw [C0 _ _ (by omega), f6 _ _ (by unfold sGo sBind; omega)]; exact s5
    · have B : ∀ b, b ≠ 7 → (si h3 4 2 (h3.1 4 2 + nI m)).1 (hc.2.1 k) b = h2.1 (hc.2.1 k) b := fun b hb => (C0 _ _ (by omega)).trans (f6 _ _ (by unfold sGo sBind; omega))
      exact ⟨(B _ (by omega)).trans r1, (B _ (by omega)).trans r5, (B _ (by omega)).trans r6, (B _ (by omega)).trans r3, fun z => absurd z (by simp), cf.fr fun a b _ _ => C0 _ _ (by omega)⟩
    · obtain ⟨t1, t2, t3, t4, t5, t6, t7, t8'⟩ := rm
      exact ⟨t1, t2, t3, t4, t5, fun z => absurd z (by simp), mf⟩
    · refine ⟨by simp, hc4, hm8, fun j hj => ?_, fun z => absurd z (by simp), fun z => absurd z (by simp), fun z => absurd z (by simp), fun z => absurd z (by simp)⟩
      exact fx_ok (tr := tr) K (fun k hk => UU_ok p14 p15 (by omega)) j (by rw [K4]; exact hj)
    · exact ⟨fun z => absurd z (by simp), fun _ _ => ⟨m81, g88⟩, fun z => absurd z (by simp)⟩
