theorem end_both {hc hm : HP} {c : Nat} (hF : RF hc hm c) (hc4 : c < 4) : ∃ os : OS, os.1 ≤ 10 ∧ (∀ (h : HP) (Q : HP → Prop), (∀ a b, 41 + 11 * c ≤ a → a ≤ 44 + 11 * c → h.1 a b = hc.1 a b) → h.1 4 4 = hc.1 4 4 → h.1 4 5 = hc.1 4 5 → (∀ h' : HP, h'.2 = h.2 → CO h'.1 (41 + 11 * c) os → Fr (sFar (41 + 11 * c)) h.1 h'.1 → h'.1 4 5 = h.1 4 5 → Q h') → P_X1_end (41 + 11 * c) h Q) ∧ ∀ (h : HP) (Q : HP → Prop), (∀ a b, iF c a b → h.1 a b = hm.1 a b) → h.1 80 4 = hm.1 80 4 → h.1 80 5 = hm.1 80 5 → (∀ h' : HP, h'.2 = h.2 → MO h'.1 c os → Fr (sFarM c) h.1 h'.1 → h'.1 80 5 = h.1 80 5 → Q h') → P_X9_ends (nI c) h Q := by
  rcases hF with ⟨os, o1, o2, o3, o4⟩ | ⟨y, ok, cf, mf⟩
  · refine ⟨os, o3.1, fun h Q h1 h4 h5 hQ => ?_, fun h Q h1 h4 h5 hQ => ?_⟩
    · refine k_end0 ((h1 _ _ (by omega) (by omega)).trans o1) (hQ h rfl ?_ Fr.rf rfl)
      exact o3.fr (h1 _ _ (by omega) (by omega)) (fun i => h1 _ _ (by omega) (by omega)) h4
    · refine m_ends0 hc4 ((h1 _ _ (Or.inl ⟨by omega, by omega, rfl⟩)).trans o2) (hQ h rfl ?_ Fr.rf rfl)
      have := o4.1
      exact ⟨o4.1, (h1 _ _ (Or.inr (Or.inr (Or.inl ⟨rfl, rfl⟩)))).trans o4.2.1, fun i hi => (h1 _ _ (Or.inr (Or.inr (Or.inr ⟨rfl, by omega, by omega⟩)))).trans (o4.2.2.1 i hi), h4.trans o4.2.2.2⟩
  · refine ⟨_, rlN_le y.1.2.1 (K := y.2.2.2.2.2.1) y.2.2.2.2.2.2 ok.2.2.2.2.2.2.2.2, fun h Q h1 h4 h5 hQ => ?_, fun h Q h1 h4 h5 hQ => ?_⟩
    · exact k_end (by omega) (cf.f0 ok h1 h4 h5) ok fun h2 e2 z2 co f2 t5 => hQ h2 e2 co f2 t5
    · exact m_ends hc4 (mf.f0 ok h1 h4 h5) ok fun h2 e2 z2 co f2 t5 => hQ h2 e2 co f2 t5
def ltY (c w : Nat) : LT := ((1, c, 0), (-1, -1, nI w, -1, -1), fun _ => (0, 0, 0))
theorem d_ask {hc hm h1 : HP} {k p : Nat} {X : Nat → LT} {R : HP → Prop} (D : DCx hc hm h1 k p X) (hs : (X p).1.1 = 0) (hR : ∀ h' : HP, P_X9_comesOther (nI p) hm (fun hm' => (1 : Int32) = 1 ∧ InvW h' hm') → R h') : P_X8_arrives (hc.2.1 p) h1 R := by
  obtain ⟨hI, hp, l1, l2, l3, a1, L1, -, E1⟩ := D
  have hk := l1.1
  have hr := lc_ge l1 (show p < 5 by omega)
  have cl : CLt h1.1 (hc.2.1 p) (X p) := (l1.2.2.2 p hp).fr fun a b z1 z2 => E1 a b (by omega)
  have hT := hI.2.2.1
  obtain ⟨c, hcx⟩ : ∃ c, (X p).1.2.1 = c := ⟨_, rfl⟩
  have hc4 : c < 4 := by rw [← hcx]; exact (l3.1 p hp).2.1
  have hic : vp_in (nI c) 4 := n_in hc4 (by omega)
  have hcl : (nI c).toNatClampNeg = c := n_cl (by omega)
  have s81 : hm.1 81 c = 1 := by rw [← hcx]; exact (l3.2.2 p hp).1 (by omega)
  obtain ⟨wd, kd, ho, x1, x2, x3, x4⟩ := (l3.1 p hp).2.2.2.2.1 hs
  have xw : (X p).2.1.2.2.1 = nI wd := by rw [x1]
  have xk : (X p).2.1.2.2.2.1 = nI kd := by rw [x1]
  have xh : (X p).2.1.2.2.2.2 = nI ho := by rw [x1]
  obtain ⟨wm, ew⟩ : ∃ wm, wm = min wd 12 := ⟨_, rfl⟩
  have ec : (if (12 : Int32) < nI wd then 12 else nI wd) = nI wm := by
    rw [show (12 : Int32) = nI 12 from rfl]
    by_cases z : 12 < wd
    · rw [if_pos (by rw [n_ult (by omega) (by omega)]; exact z), show wm = 12 by omega]
    · rw [if_neg (by rw [n_ult (by omega) (by omega)]; exact z), show wm = wd by omega]
  obtain ⟨os, os10, eC, eM⟩ := end_both (hI.2.2.2.2.1 c hc4) hc4
  have okN : YOk (new1 kd wm ho (hc.1 4 5) os) := ⟨x3, ⟨by show 1 ≤ wm; omega, by show wm ≤ 12; omega⟩, x4, by show 0 < 64; omega, Nat.two_pow_pos _, by show 0 < 64; omega, by show 0 < ho; omega, ⟨fun _ _ => rfl, fun _ => Nat.zero_le _⟩, os10⟩
  refine k_arr cl (l3.1 p hp) hs hcx (fun _ => ?_) (fun z => absurd z (by decide)) (fun z => absurd z (by decide)) (fun z => absurd z (by decide)) (fun z => absurd z (by decide))
  rw [cl.2.2.2.1, (cl.2.2.2.2.1 hs).1, (cl.2.2.2.2.1 hs).2, xw, xk, xh, ec]
  refine eC h1 _ (fun a b _ _ => E1 a b (by omega)) (E1 _ _ (by omega)) (E1 _ _ (by omega)) fun h2 e2 co f2 t5 => ?_
  refine k_beginZ (by omega) co fun h3 e3 cf f3 => ?_
  rw [t5, E1 4 5 (by omega)] at cf
  have C : ∀ a b, a ≠ 5 → ¬ sFar (41 + 11 * c) a b → h3.1 a b = hc.1 a b := fun a b z1 z2 => (f3 a b z2).trans ((f2 a b z2).trans (E1 a b z1))
  have L1' : CLs h3 (k - 1) (rmX p X) := L1.fr (by rw [e3, e2]) (fun a b z1 z2 => (f3 _ _ (by unfold sFar; omega)).trans (f2 _ _ (by unfold sFar; omega))) ((f3 _ _ (by unfold sFar; omega)).trans (f2 _ _ (by unfold sFar; omega)))
  have hr3 := lc_ge L1' (show k - 1 < 5 by omega)
  refine k_send L1' (by omega) fun h4 e4 s5 s0 rr f4 => ⟨ty_L (L1'.2.2.1.1 (k - 1) (by omega)), hic, hR _ ?_⟩
  obtain ⟨r0, r1, r2, r3, r4, r5, r6, r7⟩ := rr
  have w4 : h4.1 (41 + 11 * c) 4 = nI wm := (f4 _ _ (by unfold sSd; omega)).trans cf.2.2.1
  rw [w4]
  have b6 := ((l2.2.2 p hp).2.2.2.2.2.1 hs)
  refine m_oth l2 l3.1 hp hs hcx fun g1 e1 L2 f1 => ⟨fun _ => ?_, fun z => absurd z (by decide), fun z => absurd z (by decide), fun z => absurd z (by decide), fun z => absurd z (by decide)⟩
  rw [b6.1, b6.2, xw, xk, xh]
  refine eM g1 _ (fun a b z => f1 a b (by have := iF_lo z; unfold sDr; omega)) (f1 _ _ (by unfold sDr; omega)) (f1 _ _ (by unfold sDr; omega)) fun g2 e5 mo f5 t6 => ⟨hic, hic, ?_⟩
  have J : P_X9_comesAsk_j37 78 (nI c) (nI ho) (si (si (si g2 99 c 1) 100 c (nI kd)) 101 c (nI wm)) (fun hm' => (1 : Int32) = 1 ∧ InvW (si h4 (h3.2.1 (k - 1)) 3 (nI wm)) hm') := by
    refine m_askZ hc4 mo fun g3 e6 mf f6 => ?_
    rw [t6, f1 80 5 (by unfold sDr; omega), ← hT.1 5 (by omega)] at mf
    have M : ∀ a b, ¬ sDr a b → ¬ sFarM c a b → g3.1 a b = hm.1 a b := fun a b z1 z2 => (f6 a b z2).trans ((f5 a b z2).trans (f1 a b z1))
    have L2' : MLs g3.1 (k - 1) (rmX p X) := L2.fr (l3.rm hp).1.1 ((f6 _ _ (by unfold sFarM; omega)).trans (f5 _ _ (by unfold sFarM; omega))) (fun y => (f6 _ _ (by unfold sFarM; omega)).trans (f5 _ _ (by unfold sFarM; omega))) (fun y => (f6 _ _ (by unfold sFarM; omega)).trans (f5 _ _ (by unfold sFarM; omega)))
    refine m_send (k := k - 1) (by omega) L2'.2.1 fun g4 e7 rm g39 g80 f7 => ⟨rfl, ?_⟩
    obtain ⟨I2, ls2, no2⟩ := rem_inv hI l3 hp a1 hcx L1' L2' (fun a b z => C a b (fun y => z (by unfold tC; omega)) (fun y => z (by unfold tC; unfold sFar at y; omega))) (fun a b z => M a b (fun y => z (by unfold tM; unfold sDr at y; omega)) (fun y => z (by unfold tM iF; unfold sFarM at y; omega))) (far_tal hT cf mf (fun j _ _ _ => C _ _ (by omega) (by unfold sFar; omega)) (fun j _ _ _ => M _ _ (by unfold sDr; omega) (by unfold sFarM; omega))) (Or.inr ⟨fun a b z1 z2 => C a b (by omega) (by unfold sFar; omega), fun a b z => M a b (by have := iN_lo z; unfold sDr; omega) (by have := iN_lo z; unfold sFarM; omega)⟩) (Or.inl (Or.inr ⟨_, okN, cf, mf⟩))
    have C0 : ∀ a b, ¬ (a = h3.2.1 (k - 1) ∧ b = 3) → (si h4 (h3.2.1 (k - 1)) 3 (nI wm)).1 a b = h4.1 a b := fun a b z => by rw [si_1, if_neg z]
    obtain ⟨t1, t2, t3, t4, t5', t6', t7, t8⟩ := rm
    refine snd_inv (x := ltY c wm) hc4 I2 L1' L2' ls2 (by omega) ((C _ _ (by omega) (by unfold sFar; omega)).trans a1) no2 rfl (by rw [si_2, e4]) ((C0 _ _ (by omega)).trans s5) ((C0 _ _ (by omega)).trans s0) (fun a b z => (C0 a b (fun y => z (by unfold sSd; omega))).trans (f4 a b z)) ⟨(C0 _ _ (by omega)).trans r1, (C0 _ _ (by omega)).trans r5, (C0 _ _ (by omega)).trans r6, si_s .., fun z => absurd z (by simp [ltY]), (C0 _ _ (by omega)).trans r0, (C0 _ _ (by omega)).trans r7, fun j hj => absurd hj (by simp [ltY])⟩ g39 g80 f7 ⟨t1, t2, t3, t4, t5', fun z => absurd z (by simp [ltY]), t8, fun j hj => absurd hj (by simp [ltY])⟩ ⟨by simp [ltY], hc4, by simp [ltY], fun j hj => absurd hj (by simp [ltY]), fun z => absurd z (by simp [ltY]), fun _ => ⟨wm, rfl, by omega, by omega⟩, fun z => absurd z (by simp [ltY]), fun z => absurd z (by simp [ltY])⟩ ⟨fun _ => (M _ _ (by unfold sDr; omega) (by unfold sFarM; omega)).trans s81, fun z => absurd z (by simp [ltY]), fun z => absurd z (by simp [ltY])⟩
  rw [hcl]
  by_cases z : 12 ≤ wd
  · refine bc_t (by rw [show (12 : Int32) = nI 12 from rfl, n_ule (by omega) (by omega)]; exact z) ⟨hic, ?_⟩
    rw [show wm = 12 by omega] at J ⊢
    exact J
  · refine bc_f (by rw [show (12 : Int32) = nI 12 from rfl, n_ule (by omega) (by omega)]; exact z) ⟨hic, ?_⟩
    rw [show wm = wd by omega] at J ⊢
    exact J
