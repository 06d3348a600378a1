theorem m_bunE {k p c n dm : Nat} {X : Nat → LT} {G : GF} {h : HP} {Q : Int32 → HP → Prop} (l2 : MLs h.1 k X) (ok : ∀ i, i < k → LtOk (X i)) (hp : p < k) (hcx : (X p).1.2.1 = c) (hnx : (X p).1.2.2 = n) (hGx : (X p).2.2 = G) (hdm : dm ≤ 255) (hQ : ∀ g1 : HP, MLs g1.1 (k - 1) (rmX p X) → (∀ a b, ¬ sDr a b → a ≠ 113 → a ≠ 114 → g1.1 a b = h.1 a b) → (∀ i, i < rcN c dm G n → g1.1 113 i = nI (cmN c dm G n i).1 ∧ g1.1 114 i = nI (cmN c dm G n i).2) → (((((si g1 80 3 ((g1.1 80 3) + (nI (rcN c dm G n)))).1 99 c) = 0) → (Q (nI (rcN c dm G n)) (si g1 80 3 ((g1.1 80 3) + (nI (rcN c dm G n)))))) ∧ ((¬ ((si g1 80 3 ((g1.1 80 3) + (nI (rcN c dm G n)))).1 99 c) = 0) → (((¬ (nI (rcN c dm G n)) = 0) → (Lp2 (fun X_167 (i6_167 : Int32) (h_167 : HP) => (((nI (rcN c dm G n)) ≤ i6_167) → ((vp_in (nI c) 4) ∧ ((vp_in (nI c) 4) ∧ (P_X9_send 4 (nI c) (h_167.1 104 c) (h_167.1 105 c) (-1) h_167 (fun (v_219 : Int32) (h_219 : HP) => Q (nI (rcN c dm G n)) h_219))))) ∧ ((¬ (nI (rcN c dm G n)) ≤ i6_167) → ((vp_in i6_167 8) ∧ ((vp_in i6_167 8) ∧ (P_X9_comesNumber (nI c) (h_167.1 113 i6_167.toNatClampNeg) (h_167.1 114 i6_167.toNatClampNeg) h_167 (fun (h_191 : HP) => X_167 (i6_167 + 1) h_191)))))) 0 (si g1 80 3 ((g1.1 80 3) + (nI (rcN c dm G n)))))) ∧ (((nI (rcN c dm G n)) = 0) → (Q (nI (rcN c dm G n)) (si g1 80 3 ((g1.1 80 3) + (nI (rcN c dm G n)))))))))) : P_X9_comesBundle (nI p) (nI dm) h Q := by
  subst hcx hnx hGx
  have hk := l2.1
  obtain ⟨b1, b2, b3, b4, b5, b6, b7⟩ := l2.2.2 p hp
  have hb := (ok p hp).2.1
  have q1 : nI (8 * p) + 1 = nI (8 * p + 1) := n_addl _ 1 rfl
  have q7 : nI (8 * p) + 7 = nI (8 * p + 7) := n_addl _ 7 rfl
  have hcl : (nI (X p).1.2.1).toNatClampNeg = (X p).1.2.1 := n_cl (by omega)
  have h1 : (nI (8 * p + 1)).toNatClampNeg = 8 * p + 1 := n_cl (by omega)
  have h7 : (nI (8 * p + 7)).toNatClampNeg = 8 * p + 7 := n_cl (by omega)
  unfold P_X9_comesBundle
  rw [n8, q1, q7, n4, h1, h7, b2, hcl]
  refine ⟨n_in (by omega) (by omega), ?_⟩
  refine m_bunLoop (p := p) (c := (X p).1.2.1) (n := (X p).1.2.2) (dm := dm) (G := (X p).2.2) (by omega) hb (ok p hp).2.2.1 (ok p hp).2.2.2.1 hdm b7 fun g0 e0 f0 ce => ?_
  refine m_drop (l2.fr ok (f0 _ _ (by omega) (by omega)) (fun y => f0 _ _ (by omega) (by omega)) (fun y => f0 _ _ (by omega) (by omega))) ok hp fun g1 e1 L2 f1 => ⟨n_in hb (by omega), ?_⟩
  exact hQ g1 L2 (fun a b z1 z2 z3 => (f1 a b z1).trans (f0 a b z2 z3)) fun i hi => ⟨(f1 _ _ (by unfold sDr; omega)).trans (ce i hi).1, (f1 _ _ (by unfold sDr; omega)).trans (ce i hi).2⟩
theorem d_bun {hc hm h1 : HP} {k p dm : Nat} {X : Nat → LT} {R : Int32 → HP → Prop} (D : DCx hc hm h1 k p X) (hs : (X p).1.1 = 2) (hdm : dm ≤ 255) (hR : ∀ (v : Int32) (h' : HP), P_X9_comesBundle (nI p) (nI dm) hm (fun v' hm' => v = v' ∧ InvW h' hm') → R v h') : P_X8_bundleArrives (hc.2.1 p) (nI dm) h1 R := by
  obtain ⟨hI, hp, l1, l2, l3, a1, L1, -, E1⟩ := D
  have hk := l1.1
  have hr := lc_ge l1 (show p < 5 by omega)
  have cl : CLt h1.1 (hc.2.1 p) (X p) := (l1.2.2.2 p hp).fr fun a b z1 z2 => E1 a b (by omega)
  have hT := hI.2.2.1
  obtain ⟨c, hcx⟩ : ∃ c, (X p).1.2.1 = c := ⟨_, rfl⟩
  obtain ⟨n, hnx⟩ : ∃ n, (X p).1.2.2 = n := ⟨_, rfl⟩
  obtain ⟨G, hGx⟩ : ∃ G, (X p).2.2 = G := ⟨_, rfl⟩
  have hc4 : c < 4 := by rw [← hcx]; exact (l3.1 p hp).2.1
  have hn8 : n ≤ 8 := by rw [← hnx]; exact (l3.1 p hp).2.2.1
  have gok : ∀ j, j < n → (G j).1 < 64 ∧ (G j).2.1 ≤ 999 ∧ (G j).2.2 ≤ 20 := by rw [← hnx, ← hGx]; exact (l3.1 p hp).2.2.2.1
  have cfm : CFm h1.1 (hc.2.1 p) c n G := by rw [← hcx, ← hnx, ← hGx]; exact cl.2.2.2.2.2
  have hic : vp_in (nI c) 4 := n_in hc4 (by omega)
  obtain ⟨s2, s88⟩ : hm.1 81 c = 2 ∧ hm.1 88 c = 1 := by rw [← hcx]; exact (l3.2.2 p hp).2.1 (by omega) (by omega)
  have rle := rcN_le (c := c) (dm := dm) (G := G) n
  obtain ⟨rc, erc⟩ : ∃ rc, rcN c dm G n = rc := ⟨_, rfl⟩
  rw [erc] at rle
  have r0 : (nI rc ≤ 0) ↔ rc = 0 := by rw [n0, n_ule (by omega) (by omega)]; omega
  have r0' : (nI rc = 0) ↔ rc = 0 := nz (m := 0) (by omega) (by omega) rfl
  rcases hI.2.2.2.2.1 c hc4 with ⟨os, o1, o2, o3, o4⟩ | ⟨y, ok, cf, mf⟩
  · have z1 : h1.1 (41 + 11 * c) 2 = 0 := (E1 _ _ (by omega)).trans o1
    refine k_bunLoop (c := c) (n := n) (G := G) (fun _ h' => h' = h1) hc4 hn8 gok hdm rfl (fun j h' e => by rw [e]; exact cfm) (fun j h' _ _ e Q' q => by rw [e]; exact bc_t' z1 (q _ rfl)) (fun _ _ _ e => e) fun h' e => ?_
    subst e
    rw [erc]
    have RF0 : P_X9_comesBundle (nI p) (nI dm) hm (fun v' hm' => nI rc = v' ∧ InvW (si h' 4 3 (h'.1 4 3 + nI rc)) hm') := by
      refine m_bunE l2 l3.1 hp hcx hnx hGx hdm fun g1 L2 f1 ce => ?_
      rw [erc]
      refine bc_t ((si_o (by decide) _).trans ((f1 _ _ (by unfold sDr; omega) (by omega) (by omega)).trans o2)) ⟨rfl, ?_⟩
      have C : ∀ a b, a ≠ 5 → ¬ (a = 4 ∧ b = 3) → (si h' 4 3 (h'.1 4 3 + nI rc)).1 a b = hc.1 a b := fun a b z1 z2 => by rw [si_1, if_neg z2]; exact E1 a b z1
      have M : ∀ a b, ¬ sDr a b → a ≠ 113 → a ≠ 114 → ¬ (a = 80 ∧ b = 3) → (si g1 80 3 (g1.1 80 3 + nI rc)).1 a b = hm.1 a b := fun a b z1 z2 z3 z4 => by rw [si_1, if_neg z4]; exact f1 a b z1 z2 z3
      have L1' : CLs (si h' 4 3 (h'.1 4 3 + nI rc)) (k - 1) (rmX p X) := L1.fr rfl (fun a b z1 z2 => si_o (by omega) _) (si_o (by decide) _)
      have L2' : MLs (si g1 80 3 (g1.1 80 3 + nI rc)).1 (k - 1) (rmX p X) := L2.fr (l3.rm hp).1.1 (si_o (by decide) _) (fun y => si_o (by decide) _) (fun y => si_o (by decide) _)
      refine (rem_inv hI l3 hp a1 hcx L1' L2' (fun a b z => C a b (fun y => z (by unfold tC; omega)) (fun y => z (by unfold tC; omega))) (fun a b z => M a b (fun y => z (by unfold tM; unfold sDr at y; omega)) (fun y => z (by unfold tM; omega)) (fun y => z (by unfold tM; omega)) (fun y => z (by unfold tM; omega))) (fun j hj => ?_) (Or.inr ⟨fun a b z1 z2 => C a b (by omega) (by omega), fun a b z => M a b (by have := iN_lo z; unfold sDr; omega) (by have := iN_lo z; omega) (by have := iN_lo z; omega) (by have := iN_lo z; omega)⟩) (Or.inr ⟨fun a b z1 z2 => C a b (by omega) (by omega), fun a b z => M a b (by have := iF_lo z; unfold sDr; omega) (by have := iF_lo z; omega) (by have := iF_lo z; omega) (by have := iF_lo z; omega)⟩)).1
      by_cases z3 : j = 3
      · subst z3
        rw [si_s, si_s, E1 _ _ (by omega), f1 _ _ (by unfold sDr; omega) (by omega) (by omega), hT.1 3 (by omega)]
      · rw [C _ _ (by omega) (by omega), M _ _ (by unfold sDr; omega) (by omega) (by omega) (by omega)]; exact hT.1 j hj
    refine ⟨fun _ => hR _ _ RF0, fun _ => ?_⟩
    rw [show (si h' 4 3 (h'.1 4 3 + nI rc)).1 (hc.2.1 p) 0 = nI c from (si_o (by omega) _).trans cfm.1]
    exact k_ans0 hc4 ((si_o (by omega) _).trans z1) (hR _ _ RF0)
  · have cf1 : CFar h1.1 (41 + 11 * c) y := cf.f0 ok (fun a b z1 z2 => E1 a b (by omega)) (E1 _ _ (by omega)) (E1 _ _ (by omega))
    refine k_bunLoop (c := c) (n := n) (G := G) (fun j h' => h'.2 = h1.2 ∧ CFar h'.1 (41 + 11 * c) (fyN c dm G j y) ∧ Fr (sFar (41 + 11 * c)) h1.1 h'.1) hc4 hn8 gok hdm ⟨rfl, cf1, Fr.rf⟩ (fun j h' e => cfm.fr fun a b z1 z2 => e.2.2 a b (by unfold sFar; omega)) (fun j h' hj okj e Q' q => ?_) (fun j h' nok e => ⟨e.1, by rw [fyN_f nok]; exact e.2.1, e.2.2⟩) fun h2 e => ?_
    · exact k_comes (by omega) e.2.1 (fy_ok ok j fun i hi => gok i (by omega)) (gok j hj).1 (vX_le (gok j hj).2.1) fun h'' g1 g2 g3 => q h'' ⟨g1.trans e.1, by rw [fyN_t okj]; exact g2, e.2.2.tr g3⟩
    obtain ⟨e2, cf2, f2⟩ := e
    have okY := fy_ok (c := c) (dm := dm) ok n gok
    rw [erc]
    have HA : ∀ a b, ¬ (a = 4 ∧ b = 3) → (si h2 4 3 (h2.1 4 3 + nI rc)).1 a b = h2.1 a b := fun a b z => by rw [si_1, if_neg z]
    have C : ∀ a b, a ≠ 5 → ¬ sFar (41 + 11 * c) a b → ¬ (a = 4 ∧ b = 3) → (si h2 4 3 (h2.1 4 3 + nI rc)).1 a b = hc.1 a b := fun a b z1 z2 z3 => (HA a b z3).trans ((f2 a b z2).trans (E1 a b z1))
    have cfA : CFar (si h2 4 3 (h2.1 4 3 + nI rc)).1 (41 + 11 * c) (fyN c dm G n y) := cf2.f0 okY (fun a b _ _ => HA _ _ (by omega)) (HA _ _ (by omega)) (HA _ _ (by omega))
    have L1' : CLs (si h2 4 3 (h2.1 4 3 + nI rc)) (k - 1) (rmX p X) := L1.fr (by rw [si_2, e2]) (fun a b z1 z2 => (HA _ _ (by omega)).trans (f2 _ _ (by unfold sFar; omega))) ((HA _ _ (by omega)).trans (f2 _ _ (by unfold sFar; omega)))
    have t3 : (si h2 4 3 (h2.1 4 3 + nI rc)).1 4 3 = hc.1 4 3 + nI rc := by rw [si_s, f2 _ _ (by unfold sFar; omega), E1 _ _ (by omega)]
    have gf := gy_fy (c := c) (dm := dm) (G := G) (y := y) n
    rw [erc] at gf
    by_cases rz : rc = 0
    · refine bc_t (r0.mpr rz) (hR _ _ ?_)
      refine m_bunE l2 l3.1 hp hcx hnx hGx hdm fun g1 L2 f1 ce => ?_
      rw [erc]
      have mfA : MFar (si g1 80 3 (g1.1 80 3 + nI rc)).1 c y := mf.f0 ok (fun a b z => (si_o (by have := iF_lo z; omega) _).trans (f1 _ _ (by have := iF_lo z; unfold sDr; omega) (by have := iF_lo z; omega) (by have := iF_lo z; omega))) ((si_p (by decide) _).trans (f1 _ _ (by unfold sDr; omega) (by omega) (by omega))) ((si_p (by decide) _).trans (f1 _ _ (by unfold sDr; omega) (by omega) (by omega)))
      refine bc_f (by rw [mfA.1]; decide) (bc_t' (r0'.mpr rz) ⟨rfl, ?_⟩)
      have M : ∀ a b, ¬ sDr a b → a ≠ 113 → a ≠ 114 → ¬ (a = 80 ∧ b = 3) → (si g1 80 3 (g1.1 80 3 + nI rc)).1 a b = hm.1 a b := fun a b z1 z2 z3 z4 => by rw [si_1, if_neg z4]; exact f1 a b z1 z2 z3
      have L2' : MLs (si g1 80 3 (g1.1 80 3 + nI rc)).1 (k - 1) (rmX p X) := L2.fr (l3.rm hp).1.1 (si_o (by decide) _) (fun y => si_o (by decide) _) (fun y => si_o (by decide) _)
      rw [rz] at gf
      rw [← show y = fyN c dm G n y from gf] at cfA
      refine (rem_inv hI l3 hp a1 hcx L1' L2' (fun a b z => C a b (fun y => z (by unfold tC; omega)) (fun y => z (by unfold tC; unfold sFar at y; omega)) (fun y => z (by unfold tC; omega))) (fun a b z => M a b (fun y => z (by unfold tM; unfold sDr at y; omega)) (fun y => z (by unfold tM; omega)) (fun y => z (by unfold tM; omega)) (fun y => z (by unfold tM; omega))) (fun j hj => ?_) (Or.inr ⟨fun a b z1 z2 => C a b (by omega) (by unfold sFar; omega) (by omega), fun a b z => M a b (by have := iN_lo z; unfold sDr; omega) (by have := iN_lo z; omega) (by have := iN_lo z; omega) (by have := iN_lo z; omega)⟩) (Or.inl (Or.inr ⟨y, ok, cfA, mfA⟩))).1
      by_cases z3 : j = 3
      · subst z3
        rw [t3, si_s, f1 _ _ (by unfold sDr; omega) (by omega) (by omega), hT.1 3 (by omega)]
      · by_cases z4 : j = 4
        · subst z4; rw [cfA.2.2.2.2.2.2.2.2.2.2.2.2.2.2.2, mfA.2.2.2.2.2.2.2.2.2.2.2.2.2.2.2]
        · by_cases z5 : j = 5
          · subst z5; rw [cfA.2.2.2.2.2.2.2.1, mfA.2.2.2.2.2.2.2.1]
          · rw [C _ _ (by omega) (by unfold sFar; omega) (by omega), M _ _ (by unfold sDr; omega) (by omega) (by omega) (by omega)]; exact hT.1 j hj
    · refine bc_f (fun z => rz (r0.mp z)) ?_
      rw [show (si h2 4 3 (h2.1 4 3 + nI rc)).1 (hc.2.1 p) 0 = nI c from (HA _ _ (by omega)).trans ((f2 _ _ (by unfold sFar; omega)).trans cfm.1)]
      refine k_ansr hc4 L1' (by omega) cfA.1 cfA.2.2.2.2.1 cfA.2.2.2.2.2.1 fun h3 e3 s5 s0 cl3 f3 => hR _ _ ?_
      refine m_bunE l2 l3.1 hp hcx hnx hGx hdm fun g1 L2 f1 ce => ?_
      have cmo := cm_ok (c := c) (dm := dm) (G := G) n gok
      rw [erc] at ce cmo
      rw [erc]
      have mfA : MFar (si g1 80 3 (g1.1 80 3 + nI rc)).1 c y := mf.f0 ok (fun a b z => (si_o (by have := iF_lo z; omega) _).trans (f1 _ _ (by have := iF_lo z; unfold sDr; omega) (by have := iF_lo z; omega) (by have := iF_lo z; omega))) ((si_p (by decide) _).trans (f1 _ _ (by unfold sDr; omega) (by omega) (by omega))) ((si_p (by decide) _).trans (f1 _ _ (by unfold sDr; omega) (by omega) (by omega)))
      refine bc_f (by rw [mfA.1]; decide) (bc_f' (fun z => rz (r0'.mp z)) ?_)
      refine m_bunLoop2 (m := rc) (cm := cmN c dm G n) hc4 (by omega) cmo (fun i hi => ⟨(si_o (by decide) _).trans (ce i hi).1, (si_o (by decide) _).trans (ce i hi).2⟩) mfA ok fun g3 e4 mf3 f4 => ⟨hic, hic, ?_⟩
      rw [gf] at mf3
      rw [mf3.2.2.2.2.1, mf3.2.2.2.2.2.1]
      have M1 : ∀ a b, ¬ (a = 80 ∧ b = 3) → ¬ sFarM c a b → g3.1 a b = g1.1 a b := fun a b z1 z2 => (f4 a b z2).trans (by rw [si_1, if_neg z1])
      have M : ∀ a b, ¬ sDr a b → a ≠ 113 → a ≠ 114 → ¬ (a = 80 ∧ b = 3) → ¬ sFarM c a b → g3.1 a b = hm.1 a b := fun a b z1 z2 z3 z4 z5 => (M1 a b z4 z5).trans (f1 a b z1 z2 z3)
      have L2' : MLs g3.1 (k - 1) (rmX p X) := L2.fr (l3.rm hp).1.1 (M1 _ _ (by omega) (by unfold sFarM; omega)) (fun y => M1 _ _ (by omega) (by unfold sFarM; omega)) (fun y => M1 _ _ (by omega) (by unfold sFarM; omega))
      refine m_send (k := k - 1) (by omega) L2'.2.1 fun g4 e5 rm g39 g80 f5 => ⟨rfl, ?_⟩
      have tal : ∀ j, j < 7 → (si h2 4 3 (h2.1 4 3 + nI rc)).1 4 j = g3.1 80 j := by
        intro j hj
        by_cases z3 : j = 3
        · subst z3
          rw [t3, f4 _ _ (by unfold sFarM; omega), si_s, f1 _ _ (by unfold sDr; omega) (by omega) (by omega), hT.1 3 (by omega)]
        · by_cases z4 : j = 4
          · subst z4; rw [cfA.2.2.2.2.2.2.2.2.2.2.2.2.2.2.2, mf3.2.2.2.2.2.2.2.2.2.2.2.2.2.2.2]
          · by_cases z5 : j = 5
            · subst z5; rw [cfA.2.2.2.2.2.2.2.1, mf3.2.2.2.2.2.2.2.1]
            · rw [C _ _ (by omega) (by unfold sFar; omega) (by omega), M _ _ (by unfold sDr; omega) (by omega) (by omega) (by omega) (by unfold sFarM; omega)]; exact hT.1 j hj
      obtain ⟨I2, ls2, no2⟩ := rem_inv hI l3 hp a1 hcx L1' L2' (fun a b z => C a b (fun y => z (by unfold tC; omega)) (fun y => z (by unfold tC; unfold sFar at y; omega)) (fun y => z (by unfold tC; omega))) (fun a b z => M a b (fun y => z (by unfold tM; unfold sDr at y; omega)) (fun y => z (by unfold tM; omega)) (fun y => z (by unfold tM; omega)) (fun y => z (by unfold tM; omega)) (fun y => z (by unfold tM iF; unfold sFarM at y; omega))) tal (Or.inr ⟨fun a b z1 z2 => C a b (by omega) (by unfold sFar; omega) (by omega), fun a b z => M a b (by have := iN_lo z; unfold sDr; omega) (by have := iN_lo z; omega) (by have := iN_lo z; omega) (by have := iN_lo z; omega) (by have := iN_lo z; unfold sFarM; omega)⟩) (Or.inl (Or.inr ⟨_, okY, cfA, mf3⟩))
      have b12 : 2 ^ (fyN c dm G n y).1.2.1 ≤ 4096 := pw12 okY.2.1.2
      have bb := okY.2.2.2.2.1
      exact snd_inv hc4 I2 L1' L2' ls2 (by omega) ((C _ _ (by omega) (by unfold sFar; omega) (by omega)).trans a1) no2 rfl (by rw [e3]) s5 s0 f3 cl3 g39 g80 f5 rm.ml (ltA_ok hc4 okY.2.2.2.1 (by omega)) ⟨fun z => absurd z (by simp [ltA]), fun _ _ => ⟨(M _ _ (by unfold sDr; omega) (by omega) (by omega) (by omega) (by unfold sFarM; omega)).trans s2, (M _ _ (by unfold sDr; omega) (by omega) (by omega) (by omega) (by unfold sFarM; omega)).trans s88⟩, fun z => absurd z (by simp [ltA])⟩
theorem o_deliver (i j : Int32) : OpI (P_X8_deliver i j) (P_X9_deliver i j) InvW := by
  intro hc hm hI
  rcases lt_cases hI i with ⟨k1, k2⟩ | ⟨p, k, X, hp, rfl, a1, l1, l2, l3, k1, k2⟩
  · refine k1 _ (bz_f1 ?_)
    exact k2 hm _ rfl (bz_f1 ⟨rfl, hI⟩)
  refine k1 _ (bz_t1 ?_)
  rcases wi_c 0 255 (A := 0) (B := 255) rfl rfl (by omega) (by omega) j with hw | ⟨dm, ⟨-, hdm⟩, rfl, hw⟩
  · refine wi_f hw (bz_f1 ?_)
    exact k2 hm _ rfl (bz_t1 (wi_fM hw (bz_f1 ⟨rfl, hI⟩)))
  refine wi_t hw (bz_t1 ?_)
  have hk := l1.1
  have hr := lc_ge l1 (show p < 5 by omega)
  obtain ⟨lf, f1, f2, f3⟩ := air_left hI.2.1 a1
  have b1 := (l2.2.2 p hp).1
  have hs5 := (l3.1 p hp).1
  refine k_take l1 hp fun h1 e1 L1 e2 E1 => ⟨ty_L (l1.2.2.1.1 p (by omega)), ?_⟩
  have D : DCx hc hm h1 k p X := ⟨hI, hp, l1, l2, l3, a1, L1, e2, E1⟩
  have RW : ∀ (v : Int32) (h' : HP), ((lostP (X p).1.1 dm lf → P_X9_loseNow (nI p) hm (fun _ hm' => v = -1 ∧ InvW h' hm')) ∧ (¬ lostP (X p).1.1 dm lf → ((¬ (X p).1.1 = 2 → (P_X9_comesOther (nI p) hm (fun hm' => v = 1 ∧ InvW h' hm'))) ∧ ((X p).1.1 = 2 → (P_X9_comesBundle (nI p) (nI dm) hm (fun v' hm' => v = v' ∧ InvW h' hm')))))) → P_X9_deliver (nI p) (nI dm) hm (fun r' hm' => v = r' ∧ InvW h' hm') := by
    intro v h' hh
    refine k2 hm _ rfl (bz_t1 (wi_tM hw (bz_t1 ?_)))
    rw [n8, n_cl (by omega), b1]
    exact ⟨n_in (by omega) (by omega), m_dlv (Q := fun r' hm' => v = r' ∧ InvW h' hm') hs5 hdm f2 f3 hh.1 hh.2⟩
  refine k_dlv (s := (X p).1.1) (dm := dm) (lf := lf) ((E1 _ _ (by omega)).trans (l1.2.2.2 p hp).1) hs5 hdm (fun h Q e q => f1 h Q (fun j => (e j).trans (E1 _ _ (by omega))) q) (fun lost => ?_) (fun nl => ⟨fun ns2 => ?_, fun s2 => ?_⟩)
  · exact RW (-1) _ ⟨fun _ => m_loseNow l2 l3.1 hp fun g' _ L2 t1 fm => ⟨rfl, lost_inv D L2 t1 fm⟩, fun nl => absurd lost nl⟩
  · have hh : ∀ h' : HP, P_X9_comesOther (nI p) hm (fun hm' => (1 : Int32) = 1 ∧ InvW h' hm') → P_X9_deliver (nI p) (nI dm) hm (fun r' hm' => (1 : Int32) = r' ∧ InvW h' hm') := fun h' z => RW 1 h' ⟨fun l => absurd l nl, fun _ => ⟨fun _ => z, fun s2 => absurd s2 ns2⟩⟩
    have hs : (X p).1.1 = 0 ∨ (X p).1.1 = 1 ∨ (X p).1.1 = 3 ∨ (X p).1.1 = 4 ∨ (X p).1.1 = 5 := by omega
    rcases hs with hs | hs | hs | hs | hs
    · exact d_ask D hs hh
    · exact d_yes D hs hh
    · exact d_bar D hs hh
    · exact d_ans D hs hh
    · exact d_end D hs hh
  · exact d_bun D s2 hdm fun v h' z => RW v h' ⟨fun l => absurd l nl, fun _ => ⟨fun n => absurd s2 n, fun _ => z⟩⟩
