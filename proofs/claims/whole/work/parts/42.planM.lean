/-! Near end: the reference's plan of a bundle. -/
def MQu (g : Nat → Nat → Int32) (c qn : Nat) (q : Nat → Nat × Nat) : Prop := qn ≤ 24 ∧ g 92 c = nI qn ∧ ∀ i, i < qn → g 93 (24 * c + i) = nI (q i).1 ∧ g 94 (24 * c + i) = nI (q i).2
def PR (g : Nat → Nat → Int32) (s : PS) : Prop := g 78 42 = nI s.1 ∧ g 78 43 = nI s.2.1 ∧ g 78 44 = nI s.2.2.1 ∧ g 78 45 = nI s.2.2.2
def sPl (a b : Nat) : Prop := a = 78 ∧ 42 ≤ b ∧ b ≤ 45
/-- how much is left, as long as the air is as in g -/
def Lf (g : Nat → Nat → Int32) (lf : Int32) : Prop := ∀ (h : HP) (Q : Int32 → HP → Prop), (∀ j, j ≤ 4 → h.1 78 j = g 78 j) → Q lf h → P_X9_left h Q
theorem Lf.fr {g g' : Nat → Nat → Int32} {lf : Int32} (h : Lf g lf) (he : ∀ j, j ≤ 4 → g' 78 j = g 78 j) : Lf g' lf := fun h1 Q e hQ => h h1 Q (fun j hj => (e j hj).trans (he j hj)) hQ
theorem m_tryOne {c bnd w st k l nb : Nat} {lf room : Int32} {s : PS} {h : HP} {Q : HP → Prop} (hc : c < 4) (hb : h.1 78 3 = nI bnd) (hbn : bnd ≤ 8) (hL : Lf h.1 lf) (hr : h.1 78 2 * lf = room) (h6 : h.1 86 c = nI st) (h3 : h.1 83 c = nI w) (hw : w ≤ 12) (hst : st < 64) (hk : k < 64) (hnb : nb = (st + k) % 64) (hs : PR h.1 s) (b1 : s.1 < 2 ^ 20) (b2 : s.2.1 + l < 2 ^ 20) (b4 : s.2.2.2 ≤ 1) (hQ : ∀ h' : HP, h'.2 = h.2 → PR h'.1 (tryS bnd w room l k s) → Fr sPl h.1 h'.1 → Q h') : P_X9_tryOne (nI c) (nI nb) (nI l) h Q := by
  have hic : vp_in (nI c) 4 := n_in hc (by omega)
  obtain ⟨p1, p2, p3, p4⟩ := hs
  have no : ¬ (s.2.2.2 = 0 ∧ s.1 < bnd ∧ nI (s.2.1 + l) ≤ room ∧ k < w) → Q (si h 78 45 1) := by
    intro hz
    refine hQ _ rfl ?_ (Fr.si ⟨rfl, by omega, by omega⟩)
    unfold tryS
    rw [if_neg hz]
    exact ⟨(si_p (by decide) _).trans p1, (si_p (by decide) _).trans p2, (si_p (by decide) _).trans p3, si_s ..⟩
  have j52 : ¬ (s.2.2.2 = 0 ∧ s.1 < bnd ∧ nI (s.2.1 + l) ≤ room ∧ k < w) → P_X9_tryOne_j52 78 (nI l) h Q := by
    intro hz
    exact ⟨fun _ => no hz, fun _ => ⟨fun hy => absurd rfl hy, fun _ => no hz⟩⟩
  unfold P_X9_tryOne
  refine ⟨fun hz => j52 ?_, fun hz => ?_⟩
  · rw [hb, p1, n_ule (by omega) (by omega)] at hz
    omega
  · rw [hb, p1, n_ule (by omega) (by omega)] at hz
    refine hL h _ (fun _ _ => rfl) ⟨fun hy => j52 ?_, fun hy => ⟨hic, ?_⟩⟩
    · rw [hr, p2, nI_add] at hy
      intro z
      exact absurd hy (Int32.not_lt.mpr z.2.2.1)
    · rw [hr, p2, nI_add] at hy
      have hy' := Int32.not_lt.mp hy
      rw [n_cl (by omega), h6, p_aheadM hst (by omega), show (nb + 64 - st) % 64 = k by omega, h3, n_ule (by omega) (by omega)]
      refine ⟨hic, fun hx => j52 (by omega), fun hx => ?_⟩
      refine ⟨fun hu => no ?_, fun hu => ⟨fun _ => ?_, fun hv => absurd hv (by decide)⟩⟩
      · rw [p4, n0, n_ueq (by omega) (by omega)] at hu
        exact fun z => hu z.1
      · rw [p4, n0, n_ueq (by omega) (by omega)] at hu
        refine hQ _ rfl ?_ ((Fr.si ⟨rfl, by omega, by omega⟩).tr (Fr.si ⟨rfl, by omega, by omega⟩))
        unfold tryS
        rw [if_pos ⟨hu, by omega, hy', by omega⟩]
        refine ⟨?_, ?_, ?_, ?_⟩
        · rw [si_p (by decide), si_s, p1, nI_1]
        · rw [si_s, si_p (by decide), p2, nI_add]
        · rw [si_p (by decide), si_p (by decide)]; exact p3
        · rw [si_p (by decide), si_p (by decide), p4, hu]
theorem pl_e {bnd w sp : Nat} {room : Int32} {U : Nat → NU} : ∀ n, (pl bnd w sp room U n).2.2.2 ≤ 1 ∧ (pl bnd w sp room U n).2.2.1 ≤ n := by
  intro n
  induction n with
  | zero => exact ⟨Nat.zero_le _, Nat.zero_le _⟩
  | succ n ih =>
    show (plS bnd w sp room U n (pl bnd w sp room U n)).2.2.2 ≤ 1 ∧ (plS bnd w sp room U n (pl bnd w sp room U n)).2.2.1 ≤ n + 1
    unfold plS
    split
    · have q : (tryS bnd w room (U n).2.1 n (pl bnd w sp room U n)).2.2.2 ≤ 1 ∧ (tryS bnd w room (U n).2.1 n (pl bnd w sp room U n)).2.2.1 = (pl bnd w sp room U n).2.2.1 := by
        unfold tryS
        split
        · exact ⟨Nat.zero_le _, rfl⟩
        · exact ⟨Nat.le_refl _, rfl⟩
      refine ⟨by rw [newS_1.2.2]; exact q.1, ?_⟩
      unfold newS
      split
      · omega
      · split
        · show _ + 1 ≤ _; omega
        · omega
    · omega
theorem m_plan {c tr bnd w qn st sp : Nat} {e : Nat → NU} {q : Nat → Nat × Nat} {lf room : Int32} {h : HP} {Q : HP → Prop} (hc : c < 4) (hbd : h.1 78 3 = nI bnd) (hbn : bnd ≤ 8) (hL : Lf h.1 lf) (hr : h.1 78 2 * lf = room) (h3 : h.1 83 c = nI w) (hw : sp ≤ w) (hw2 : w ≤ 12) (hb : MB h.1 c (st, sp, e)) (hq : MQu h.1 c qn q) (hok : ∀ k, k < sp → EOk tr (e k)) (qok : QOk qn q) (hQ : ∀ h' : HP, h'.2 = h.2 → PR h'.1 (pl bnd w sp room (UU sp e q) (sp + qn)) → Fr sPl h.1 h'.1 → Q h') : P_X9_plan (nI c) h Q := by
  have hic : vp_in (nI c) 4 := n_in hc (by omega)
  have hsp : sp ≤ 12 := hb.2.1
  have hst : st < 64 := hb.1
  have hqn : qn ≤ 24 := hq.1
  have hUl : ∀ k, k < sp + qn → (UU sp e q k).2.1 ≤ 20 := fun k hk => (UU_ok hok qok hk).2.1.2
  have oth : ∀ {g : Nat → Nat → Int32}, Fr sPl h.1 g → (∀ a b, a ≠ 78 → g a b = h.1 a b) ∧ ∀ j, j ≤ 4 → g 78 j = h.1 78 j := fun ef => ⟨fun a b z => ef a b fun y => z y.1, fun j hj => ef _ _ fun y => by have := y.2.1; omega⟩
  unfold P_X9_plan
  rw [n_cl (by omega)]
  refine lpc2 fun X hX => ?_
  have loop2 : ∀ (h1 : HP), h1.2 = h.2 → PR h1.1 (pl bnd w sp room (UU sp e q) sp) → Fr sPl h.1 h1.1 → Lp2 (fun X_92 (i2_92 : Int32) (h_92 : HP) => (vp_in (nI c) 4) ∧ ((((h_92.1 92 c) ≤ i2_92) → Q h_92) ∧ ((¬ (h_92.1 92 c) ≤ i2_92) → ((vp_in (nI c) 4) ∧ ((vp_in ((24 * nI c) + i2_92) 96) ∧ (P_X9_tryOne (nI c) (((h_92.1 87 c) + i2_92) - ((h_92.1 87 c) + i2_92) / 64 * 64) (h_92.1 94 ((24 * nI c) + i2_92).toNatClampNeg) h_92 (fun (h_126 : HP) => (((h_126.1 78 45) = 0) → (X_92 (i2_92 + 1) (si h_126 78 44 ((h_126.1 78 44) + 1)))) ∧ ((¬ (h_126.1 78 45) = 0) → (X_92 (i2_92 + 1) (si h_126 78 44 ((h_126.1 78 44) + 0))))))))))) 0 h1 := by
    intro h1 e1 ep ef
    refine lpc2 fun Y hY => ?_
    have key : ∀ m n (h1 : HP), n + m = qn → h1.2 = h.2 → PR h1.1 (pl bnd w sp room (UU sp e q) (sp + n)) → Fr sPl h.1 h1.1 → Y (nI n) h1 := by
      intro m
      induction m with
      | zero =>
        intro n h1 hn e1 ep ef
        have : n = qn := by omega
        subst this
        refine hY _ _ ⟨hic, fun _ => hQ h1 e1 ep ef, fun hz => absurd ?_ hz⟩
        rw [(oth ef).1 92 c (by decide), hq.2.1, n_ule (by omega) (by omega)]; exact Nat.le_refl _
      | succ m ih =>
        intro n h1 hn e1 ep ef
        obtain ⟨o1, o2⟩ := oth ef
        have hps := pl_sum (bnd := bnd) (w := w) (sp := sp) (room := room) hUl (sp + n) (by omega)
        have hpe := pl_e (bnd := bnd) (w := w) (sp := sp) (room := room) (U := UU sp e q) (sp + n)
        have hqk := hq.2.2 n (by omega)
        have hql := (qok n (by omega)).2
        refine hY _ _ ⟨hic, fun hz => ?_, fun _ => ⟨hic, ?_, ?_⟩⟩
        · rw [o1 92 c (by decide), hq.2.1, n_ule (by omega) (by omega)] at hz; omega
        · rw [n24, nI_add]; exact n_in (by omega) (by omega)
        · rw [n24, nI_add, n_cl (by omega), o1 94 _ (by decide), hqk.2, o1 87 c (by decide), show h.1 87 c = nI ((st + sp) % 64) from hb.2.2.2.1, nI_add, n_rem64 (by omega), nI_1]
          refine m_tryOne (room := room) (k := sp + n) (s := pl bnd w sp room (UU sp e q) (sp + n)) hc ((o2 3 (by omega)).trans hbd) hbn (hL.fr o2) (by rw [o2 2 (by omega)]; exact hr) ((o1 _ _ (by decide)).trans hb.2.2.1) ((o1 _ _ (by decide)).trans h3) hw2 hst (by omega) (by omega) ep (by omega) (by omega) hpe.1 fun h2 g1 gp gf => ?_
          have q1 : pl bnd w sp room (UU sp e q) (sp + n + 1) = newS sp (sp + n) (tryS bnd w room (q n).2 (sp + n) (pl bnd w sp room (UU sp e q) (sp + n))) := by
            show plS bnd w sp room (UU sp e q) (sp + n) (pl bnd w sp room (UU sp e q) (sp + n)) = _
            unfold plS
            rw [UU_hi (by omega), if_pos rfl, show sp + n - sp = n by omega]
          have t1 : (tryS bnd w room (q n).2 (sp + n) (pl bnd w sp room (UU sp e q) (sp + n))).2.2.2 ≤ 1 ∧ (tryS bnd w room (q n).2 (sp + n) (pl bnd w sp room (UU sp e q) (sp + n))).2.2.1 < 2 ^ 20 := by
            unfold tryS
            split
            · exact ⟨Nat.zero_le _, by show (pl bnd w sp room (UU sp e q) (sp + n)).2.2.1 < _; omega⟩
            · exact ⟨Nat.le_refl _, by show (pl bnd w sp room (UU sp e q) (sp + n)).2.2.1 < _; omega⟩
          obtain ⟨p1, p2, p3, p4⟩ := gp
          rw [p4, n0, n_ueq (by omega) (by omega), p3]
          refine ⟨fun hz => ?_, fun hz => ?_⟩
          · refine ih (n + 1) _ (by omega) (g1.trans e1) ?_ (ef.tr (gf.tr (Fr.si ⟨rfl, by omega, by omega⟩)))
            rw [show sp + (n + 1) = sp + n + 1 by omega, q1]
            unfold newS
            rw [if_neg (by omega), if_pos hz]
            exact ⟨(si_p (by decide) _).trans p1, (si_p (by decide) _).trans p2, by rw [si_s, nI_1], (si_p (by decide) _).trans p4⟩
          · refine ih (n + 1) _ (by omega) (g1.trans e1) ?_ (ef.tr (gf.tr (Fr.si ⟨rfl, by omega, by omega⟩)))
            rw [show sp + (n + 1) = sp + n + 1 by omega, q1]
            unfold newS
            rw [if_neg (by omega), if_neg hz]
            exact ⟨(si_p (by decide) _).trans p1, (si_p (by decide) _).trans p2, by rw [si_s, nI_add, Nat.add_zero], (si_p (by decide) _).trans p4⟩
    exact key qn 0 h1 (by omega) e1 ep ef
  have key : ∀ m n (h1 : HP), n + m = sp → h1.2 = h.2 → PR h1.1 (pl bnd w sp room (UU sp e q) n) → Fr sPl h.1 h1.1 → X (nI n) h1 := by
    intro m
    induction m with
    | zero =>
      intro n h1 hn e1 ep ef
      have : n = sp := by omega
      subst this
      obtain ⟨o1, o2⟩ := oth ef
      refine hX _ _ ⟨hic, hic, m_spread (hb.fr (o1 _ _ (by decide)) (o1 _ _ (by decide)) fun a s h1 h2 => o1 _ _ (by omega)) ⟨fun _ => loop2 h1 e1 ep ef, fun hz => absurd ?_ hz⟩⟩
      rw [n_ule (by omega) (by omega)]; exact Nat.le_refl _
    | succ m ih =>
      intro n h1 hn e1 ep ef
      obtain ⟨o1, o2⟩ := oth ef
      have hps := pl_sum (bnd := bnd) (w := w) (sp := sp) (room := room) hUl n (by omega)
      have hpe := pl_e (bnd := bnd) (w := w) (sp := sp) (room := room) (U := UU sp e q) n
      have ce : ME h.1 (64 * c + (st + n) % 64) (e n) := hb.2.2.2.2 n (by show n < sp; omega)
      have okn := hok n (by omega)
      have ok4 := okn.2.2.2
      have ok2 := okn.2.1
      refine hX _ _ ⟨hic, hic, m_spread (hb.fr (o1 _ _ (by decide)) (o1 _ _ (by decide)) fun a s h1 h2 => o1 _ _ (by omega)) ⟨fun hz => ?_, fun _ => ⟨hic, ?_⟩⟩⟩
      · rw [n_ule (by omega) (by omega)] at hz; omega
      · have hin : vp_in (nI (64 * c + (st + n) % 64)) 256 := n_in (by omega) (by omega)
        rw [o1 86 c (by decide), show h.1 86 c = nI st from hb.2.2.1, n_at hc (by omega), n_cl (by omega), o1 98 _ (by decide), ce.2.2.2, n0, n_ueq (by omega) (by omega), o1 96 _ (by decide), ce.2.1, nI_1, nI_add, n_rem64 (by omega)]
        refine ⟨hin, fun hz => ?_, fun hz => ⟨hin, ?_⟩⟩
        · have q1 : pl bnd w sp room (UU sp e q) (n + 1) = pl bnd w sp room (UU sp e q) n := by
            show plS bnd w sp room (UU sp e q) n (pl bnd w sp room (UU sp e q) n) = _
            unfold plS
            rw [if_neg (by rw [UU_lo (by omega)]; exact hz)]
          exact ih (n + 1) h1 (by omega) e1 (by rw [q1]; exact ep) ef
        · refine m_tryOne (room := room) (k := n) (s := pl bnd w sp room (UU sp e q) n) hc ((o2 3 (by omega)).trans hbd) hbn (hL.fr o2) (by rw [o2 2 (by omega)]; exact hr) ((o1 _ _ (by decide)).trans hb.2.2.1) ((o1 _ _ (by decide)).trans h3) hw2 hst (by omega) rfl ep (by omega) (by omega) hpe.1 fun h2 g1 gp gf => ?_
          have q1 : pl bnd w sp room (UU sp e q) (n + 1) = tryS bnd w room (e n).2.1 n (pl bnd w sp room (UU sp e q) n) := by
            show plS bnd w sp room (UU sp e q) n (pl bnd w sp room (UU sp e q) n) = _
            unfold plS newS
            rw [UU_lo (by omega), if_pos hz, if_pos (by omega)]
          exact ih (n + 1) h2 (by omega) (g1.trans e1) (by rw [q1]; exact gp) (ef.tr gf)
  have k0 := key sp 0 (si (si (si (si h 78 42 0) 78 43 0) 78 44 0) 78 45 0) (by omega) rfl ⟨?_, ?_, ?_, ?_⟩ ?_
  · exact k0
  · rw [si_p (by decide), si_p (by decide), si_p (by decide), si_s]; rfl
  · rw [si_p (by decide), si_p (by decide), si_s]; rfl
  · rw [si_p (by decide), si_s]; rfl
  · rw [si_s]; rfl
  · exact (Fr.si ⟨rfl, by omega, by omega⟩).tr ((Fr.si ⟨rfl, by omega, by omega⟩).tr ((Fr.si ⟨rfl, by omega, by omega⟩).tr (Fr.si ⟨rfl, by omega, by omega⟩)))
