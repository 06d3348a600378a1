/-! Near end: an answer comes, the waiting ends, what is not done is counted. -/
def anS (w nb bi st n : Nat) (e : Nat → NU) : Nat → NU := if (st + n + 64 - nb) % 64 < w ∧ bi / 2 ^ ((st + n + 64 - nb) % 64) % 2 = 1 then upE e n ((e n).1, (e n).2.1, (e n).2.2.1, 1) else e
def an (w nb bi st : Nat) : Nat → (Nat → NU) → Nat → NU
  | 0, e => e
  | n + 1, e => anS w nb bi st n (an w nb bi st n e)
theorem n_and1 {n : Nat} (h : n < 2 ^ 32) : nI n &&& 1 = nI (n % 2) := pk_andN h 1 rfl
theorem upE_self {e : Nat → NU} {n : Nat} : upE e n (e n) = e := by
  funext k
  unfold upE
  split
  · rename_i h; rw [h]
  · rfl
theorem an_ok {w nb bi st tr sp : Nat} {e : Nat → NU} (h : ∀ k, k < sp → EOk tr (e k)) : ∀ n k, k < sp → EOk tr (an w nb bi st n e k) := by
  intro n
  induction n with
  | zero => exact h
  | succ n ih =>
    intro k hk
    show EOk tr (anS w nb bi st n (an w nb bi st n e) k)
    unfold anS
    split
    · by_cases hkn : k = n
      · subst hkn
        rw [upE_s]
        obtain ⟨a, b, c, d⟩ := ih k hk
        exact ⟨a, b, c, Nat.le_refl 1⟩
      · rw [upE_o hkn]; exact ih k hk
    · exact ih k hk
def sGu8 (N a b : Nat) : Prop := sGu N a b ∨ (a = N ∧ b = 8)
theorem k_answered {N tr w nb bi st sp : Nat} {e : Nat → NU} {d : ND} {h : HP} {Q : HP → Prop} (hN : 33 < N) (h2 : h.1 N 2 = nI w) (h3 : h.1 N 3 = nI tr) (hw : w ≤ 12) (ht : tr ≤ 4) (hn : nb < 64) (hbi : bi < 2 ^ 30) (haw : d.1 = 1) (hb : CB h.1 N (st, sp, e)) (hd : CD h.1 N d) (hok : ∀ k, k < sp → EOk tr (e k)) (hQ : ∀ h' : HP, h'.2 = h.2 → CB h'.1 N (ldA sp (st, sp, (gu tr sp (an w nb bi st sp e, d)).1)) → CD h'.1 N (0, (gu tr sp (an w nb bi st sp e, d)).2.2) → Fr (sGu8 N) h.1 h'.1 → Q h') : P_X3_answered N (nI nb) (nI bi) h Q := by
  have hsp : sp ≤ 12 := hb.2.1
  have hst : st < 64 := hb.1
  unfold P_X3_answered
  rw [hd.1, haw]
  refine ⟨fun _ => k_spread hb ?_, fun hz => absurd hz (by decide)⟩
  refine lpc2 fun X hX => ?_
  have key : ∀ m n (h1 : HP), n + m = sp → h1.2 = h.2 → CB h1.1 N (st, sp, an w nb bi st n e) → (∀ a b, a ≠ N + 6 → h1.1 a b = h.1 a b) → X (nI n) h1 := by
    intro m
    induction m with
    | zero =>
      intro n h1 hn1 e1 eb ef
      have : n = sp := by omega
      subst this
      refine hX _ _ ⟨fun _ => ?_, fun hz => absurd ?_ hz⟩
      · refine k_giveUp hN ((ef _ _ (by omega)).trans h3) ht eb (d := d) ?_ (an_ok hok n) fun h' g1 gb gd gf => ?_
        · obtain ⟨a1, a2, a3, a4, a5⟩ := hd
          exact ⟨(ef _ _ (by omega)).trans a1, (ef _ _ (by omega)).trans a2, (ef _ _ (by omega)).trans a3, (ef _ _ (by omega)).trans a4, (ef _ _ (by omega)).trans a5⟩
        · refine hQ _ (g1.trans e1) ?_ ?_ ?_
          · exact gb.fr (si_p (by decide) _) (si_p (by decide) _) fun a s h1 h2 => si_o (by omega) _
          · obtain ⟨a1, a2, a3, a4, a5⟩ := gd
            exact ⟨si_s .., (si_p (by decide) _).trans a2, (si_p (by decide) _).trans a3, (si_p (by decide) _).trans a4, (si_p (by decide) _).trans a5⟩
          · refine Fr.tr (g := h1.1) (fun a b hz => ef a b fun q => hz (Or.inl (Or.inr (Or.inl q)))) ((gf.mono fun a b q => Or.inl q).tr (Fr.si (Or.inr ⟨rfl, rfl⟩)))
      · rw [n_ule (by omega) (by omega)]; exact Nat.le_refl _
    | succ m ih =>
      intro n h1 hn1 e1 eb ef
      have ok := an_ok (w := w) (nb := nb) (bi := bi) (st := st) hok n n (by omega)
      have ce : CE h1.1 N ((st + n) % 16) (an w nb bi st n e n) := eb.2.2.2.2 n (by show n < sp; omega)
      have q2 : bi / 2 ^ ((st + n + 64 - nb) % 64) ≤ bi := Nat.div_le_self _ _
      refine hX _ _ ⟨fun hz => ?_, fun _ => ?_⟩
      · rw [n_ule (by omega) (by omega)] at hz; omega
      · rw [show h1.1 N 4 = nI st from eb.2.2.1, nI_add, p_ahead hn (by omega), nI_1, ef N 2 (by omega), h2, n_ule (by omega) (by omega)]
        have same : ¬ ((st + n + 64 - nb) % 64 < w ∧ bi / 2 ^ ((st + n + 64 - nb) % 64) % 2 = 1) → X (nI (n + 1)) h1 := by
          intro hz
          have q : an w nb bi st (n + 1) e = an w nb bi st n e := by
            show anS w nb bi st n (an w nb bi st n e) = _
            unfold anS
            rw [if_neg hz]
          exact ih (n + 1) h1 (by omega) e1 (by rw [q]; exact eb) ef
        refine ⟨fun hz => same (by omega), fun hz => ?_⟩
        rw [n_shr (by omega) (by omega), n_and1 (by omega), n1, n_ueq (by omega) (by omega)]
        refine ⟨fun hy => same (fun q => hy q.2), fun hy => ?_⟩
        rw [show h1.1 N 4 = nI st from eb.2.2.1, nI_add, p_slot (by omega), n_cl (by omega)]
        refine ⟨n_in (by omega) (by omega), ?_⟩
        have q : an w nb bi st (n + 1) e = upE (an w nb bi st n e) n ((an w nb bi st n e n).1, (an w nb bi st n e n).2.1, (an w nb bi st n e n).2.2.1, 1) := by
          show anS w nb bi st n (an w nb bi st n e) = _
          unfold anS
          rw [if_pos ⟨by omega, hy⟩]
        refine ih (n + 1) _ (by omega) e1 ?_ (fun a b z => (si_o z _).trans (ef a b z))
        rw [q]
        refine CB.up eb (show n < sp by omega) rfl (N + 6) (by omega) ?_
        exact ⟨by rw [si_o (by omega)]; exact ce.1, by rw [si_o (by omega)]; exact ce.2.1, by rw [si_o (by omega)]; exact ce.2.2.1, by rw [si_s]⟩
  exact key sp 0 h (by omega) rfl hb fun _ _ _ => rfl
theorem m_answered {c tr w nb bi st sp : Nat} {e : Nat → NU} {d : ND} {h : HP} {Q : HP → Prop} (hc : c < 4) (h1 : h.1 81 c = 2) (h2 : h.1 83 c = nI w) (h3 : h.1 84 c = nI tr) (hw : w ≤ 12) (ht : tr ≤ 4) (hn : nb < 64) (hbi : bi < 2 ^ 30) (haw : d.1 = 1) (hb : MB h.1 c (st, sp, e)) (hd : MD h.1 c d) (hok : ∀ k, k < sp → EOk tr (e k)) (hQ : ∀ h' : HP, h'.2 = h.2 → MB h'.1 c (ldA sp (st, sp, (gu tr sp (an w nb bi st sp e, d)).1)) → MD h'.1 c (0, (gu tr sp (an w nb bi st sp e, d)).2.2) → Fr (sGuM c) h.1 h'.1 → Q h') : P_X9_comesAnswer (nI c) (nI nb) (nI bi) h Q := by
  have hic : vp_in (nI c) 4 := n_in hc (by omega)
  have hsp : sp ≤ 12 := hb.2.1
  have hst : st < 64 := hb.1
  unfold P_X9_comesAnswer P_X9_isOpen
  rw [n_cl (by omega), h1]
  refine ⟨hic, fun hz => absurd rfl hz, fun _ => ⟨fun hz => absurd hz (by decide), fun _ => ⟨hic, fun _ => ?_, fun hz => ?_⟩⟩⟩
  case refine_2 =>
    rw [hd.1, haw] at hz
    exact absurd hz (by decide)
  refine lpc2 fun X hX => ?_
  have key : ∀ m n (h1 : HP), n + m = sp → h1.2 = h.2 → MB h1.1 c (st, sp, an w nb bi st n e) → Fr (fun a b => a = 98 ∧ 64 * c ≤ b ∧ b < 64 * c + 64) h.1 h1.1 → X (nI n) h1 := by
    intro m
    induction m with
    | zero =>
      intro n h1 hn1 e1 eb ef
      have : n = sp := by omega
      subst this
      refine hX _ _ ⟨hic, hic, m_spread eb ⟨fun _ => ?_, fun hz => absurd ?_ hz⟩⟩
      · have ef' : ∀ a b, a ≠ 98 → h1.1 a b = h.1 a b := fun a b z => ef a b fun q => z q.1
        refine m_giveUp hc ((ef' _ _ (by omega)).trans h3) ht eb (d := d) ?_ (an_ok hok n) fun h' g1 gb gd gf => ?_
        · obtain ⟨a1, a2, a3, a4, a5⟩ := hd
          exact ⟨(ef' _ _ (by omega)).trans a1, (ef' _ _ (by omega)).trans a2, (ef' _ _ (by omega)).trans a3, (ef' _ _ (by omega)).trans a4, (ef' _ _ (by omega)).trans a5⟩
        · exact hQ _ (g1.trans e1) gb gd (Fr.tr (ef.mono fun a b q => Or.inr (Or.inl q)) gf)
      · rw [n_ule (by omega) (by omega)]; exact Nat.le_refl _
    | succ m ih =>
      intro n h1 hn1 e1 eb ef
      have ok := an_ok (w := w) (nb := nb) (bi := bi) (st := st) hok n n (by omega)
      have ok4 := ok.2.2.2
      have ef' : ∀ a b, a ≠ 98 → h1.1 a b = h.1 a b := fun a b z => ef a b fun q => z q.1
      have ce : ME h1.1 (64 * c + (st + n) % 64) (an w nb bi st n e n) := eb.2.2.2.2 n (by show n < sp; omega)
      have q2 : bi / 2 ^ ((st + n + 64 - nb) % 64) ≤ bi := Nat.div_le_self _ _
      have hin : vp_in (nI (64 * c + (st + n) % 64)) 256 := n_in (by omega) (by omega)
      refine hX _ _ ⟨hic, hic, m_spread eb ⟨fun hz => ?_, fun _ => ⟨hic, ?_⟩⟩⟩
      · rw [n_ule (by omega) (by omega)] at hz; omega
      · rw [show h1.1 86 c = nI st from eb.2.2.1, n_at hc (by omega), n_cl (by omega), nI_1, nI_add, n_rem64 (by omega), p_aheadM hn (by omega), show ((st + n) % 64 + 64 - nb) % 64 = (st + n + 64 - nb) % 64 by omega]
        refine ⟨hin, ?_⟩
        rw [ce.2.2.2, n0, n_ueq (by omega) (by omega), ef' 83 c (by omega), h2, n_ule (by omega) (by omega)]
        have fin : ∀ (dv : Nat) (z : Int32), z = nI dv → an w nb bi st (n + 1) e = upE (an w nb bi st n e) n ((an w nb bi st n e n).1, (an w nb bi st n e n).2.1, (an w nb bi st n e n).2.2.1, dv) → X (nI (n + 1)) (si h1 98 (64 * c + (st + n) % 64) z) := by
          intro dv z hz q
          refine ih (n + 1) _ (by omega) e1 ?_ (ef.tr (Fr.si ⟨rfl, by omega, by omega⟩))
          rw [q]
          refine MB.up eb (show n < sp by omega) rfl 98 (by omega) ?_
          exact ⟨by rw [si_o (by omega)]; exact ce.1, by rw [si_o (by omega)]; exact ce.2.1, by rw [si_o (by omega)]; exact ce.2.2.1, by rw [si_s]; exact hz⟩
        have un : ∀ x : Nat, (an w nb bi st n e n).2.2.2 = x → ((an w nb bi st n e n).1, (an w nb bi st n e n).2.1, (an w nb bi st n e n).2.2.1, x) = an w nb bi st n e n := fun x hx => by rw [← hx]
        have no : ¬ ((st + n + 64 - nb) % 64 < w ∧ bi / 2 ^ ((st + n + 64 - nb) % 64) % 2 = 1) → an w nb bi st (n + 1) e = an w nb bi st n e := fun hz => by
          show anS w nb bi st n (an w nb bi st n e) = _
          unfold anS
          rw [if_neg hz]
        have yes : ((st + n + 64 - nb) % 64 < w ∧ bi / 2 ^ ((st + n + 64 - nb) % 64) % 2 = 1) → an w nb bi st (n + 1) e = upE (an w nb bi st n e) n ((an w nb bi st n e n).1, (an w nb bi st n e n).2.1, (an w nb bi st n e n).2.2.1, 1) := fun hz => by
          show anS w nb bi st n (an w nb bi st n e) = _
          unfold anS
          rw [if_pos hz]
        refine ⟨fun hz => ⟨hin, fin 1 _ rfl ?_⟩, fun hz => ⟨hic, fun hy => ⟨hin, fin 0 _ rfl ?_⟩, fun hy => ?_⟩⟩
        · by_cases hh : ((st + n + 64 - nb) % 64 < w ∧ bi / 2 ^ ((st + n + 64 - nb) % 64) % 2 = 1)
          · exact yes hh
          · rw [no hh, un 1 (by omega), upE_self]
        · rw [no (by omega), un 0 hz, upE_self]
        · rw [n_shr (by omega) (by omega), n_and1 (by omega), n1, n_ueq (by omega) (by omega)]
          refine ⟨fun hx => ⟨hin, fin 0 _ rfl ?_⟩, fun hx => ⟨hin, fin 1 _ rfl ?_⟩⟩
          · rw [no (fun q => hx q.2), un 0 hz, upE_self]
          · exact yes ⟨by omega, hx⟩
  exact key sp 0 h (by omega) rfl hb Fr.rf
/-- what is not done -/
def ud : Nat → (Nat → NU) → Nat
  | 0, _ => 0
  | n + 1, e => ud n e + if (e n).2.2.2 = 0 then 1 else 0
theorem ud_le (e : Nat → NU) : ∀ n, ud n e ≤ n := by
  intro n
  induction n with
  | zero => exact Nat.le_refl _
  | succ n ih => unfold ud; split <;> omega
theorem k_undone {N tr st sp : Nat} {e : Nat → NU} {h : HP} {Q : Int32 → HP → Prop} (hb : CB h.1 N (st, sp, e)) (hok : ∀ k, k < sp → EOk tr (e k)) (hQ : Q (nI (ud sp e)) h) : P_X3_undone N h Q := by
  have hsp : sp ≤ 12 := hb.2.1
  have hst : st < 64 := hb.1
  unfold P_X3_undone
  refine k_spread hb ?_
  refine lpc3 fun X hX => ?_
  have key : ∀ m n, n + m = sp → X (nI (ud n e)) (nI n) h := by
    intro m
    induction m with
    | zero =>
      intro n hn
      have : n = sp := by omega
      subst this
      refine hX _ _ _ ⟨fun _ => hQ, fun hz => absurd ?_ hz⟩
      rw [n_ule (by omega) (by omega)]; exact Nat.le_refl _
    | succ m ih =>
      intro n hn
      have ce : CE h.1 N ((st + n) % 16) (e n) := hb.2.2.2.2 n (by show n < sp; omega)
      have ok4 := (hok n (by omega)).2.2.2
      have hi := ih (n + 1) (by omega)
      refine hX _ _ _ ⟨fun hz => ?_, fun _ => ?_⟩
      · rw [n_ule (by omega) (by omega)] at hz; omega
      · rw [show h.1 N 4 = nI st from hb.2.2.1, nI_add, p_slot (by omega), n_cl (by omega), ce.2.2.2, n0, n_ueq (by omega) (by omega)]
        refine ⟨n_in (by omega) (by omega), fun hz => ?_, fun hz => ?_⟩
        · rw [p_flag, if_pos (show nI 0 = 0 from rfl), nI_1]
          unfold ud at hi
          rw [if_neg hz] at hi
          rw [n0, nI_add]; exact hi
        · rw [p_flag, if_neg (by decide), nI_1, nI_1]
          unfold ud at hi
          rw [if_pos hz] at hi
          exact hi
  exact key sp 0 (by omega)
theorem m_notDone {c tr st sp : Nat} {e : Nat → NU} {h : HP} {Q : Int32 → HP → Prop} (hc : c < 4) (hb : MB h.1 c (st, sp, e)) (hok : ∀ k, k < sp → EOk tr (e k)) (hQ : Q (nI (ud sp e)) h) : P_X9_notDone (nI c) h Q := by
  have hic : vp_in (nI c) 4 := n_in hc (by omega)
  have hsp : sp ≤ 12 := hb.2.1
  have hst : st < 64 := hb.1
  unfold P_X9_notDone
  rw [n_cl (by omega)]
  refine lpc3 fun X hX => ?_
  have key : ∀ m n, n + m = sp → X (nI (ud n e)) (nI n) h := by
    intro m
    induction m with
    | zero =>
      intro n hn
      have : n = sp := by omega
      subst this
      refine hX _ _ _ ⟨hic, hic, m_spread hb ⟨fun _ => hQ, fun hz => absurd ?_ hz⟩⟩
      rw [n_ule (by omega) (by omega)]; exact Nat.le_refl _
    | succ m ih =>
      intro n hn
      have ce : ME h.1 (64 * c + (st + n) % 64) (e n) := hb.2.2.2.2 n (by show n < sp; omega)
      have ok4 := (hok n (by omega)).2.2.2
      have hi := ih (n + 1) (by omega)
      refine hX _ _ _ ⟨hic, hic, m_spread hb ⟨fun hz => ?_, fun _ => ?_⟩⟩
      · rw [n_ule (by omega) (by omega)] at hz; omega
      · rw [show h.1 86 c = nI st from hb.2.2.1, n_at hc (by omega), n_cl (by omega), ce.2.2.2, n0, n_ueq (by omega) (by omega), nI_1, nI_1]
        refine ⟨hic, n_in (by omega) (by omega), fun hz => ?_, fun hz => ?_⟩
        · unfold ud at hi
          rw [if_pos hz] at hi
          exact hi
        · unfold ud at hi
          rw [if_neg hz] at hi
          rw [nI_add]; exact hi
  exact key sp 0 (by omega)
/-- the waiting ends -/
def orb (a b : Nat) : Nat := if a = 0 ∧ b = 0 then 0 else 1
theorem gu_or {tr g : Nat} {z : (Nat → NU) × ND} : ∀ n, gu tr n (z.1, (z.2.1, orb z.2.2.1 g, z.2.2.2)) = ((gu tr n z).1, ((gu tr n z).2.1, orb (gu tr n z).2.2.1 g, (gu tr n z).2.2.2)) := by
  intro n
  induction n with
  | zero => rfl
  | succ n ih =>
    show guS tr n (gu tr n _) = ((guS tr n (gu tr n z)).1, ((guS tr n (gu tr n z)).2.1, orb (guS tr n (gu tr n z)).2.2.1 g, (guS tr n (gu tr n z)).2.2.2))
    rw [ih]
    unfold guS
    by_cases hh : ((gu tr n z).1 n).2.2.2 = 0 ∧ tr ≤ ((gu tr n z).1 n).2.2.1
    · rw [if_pos hh, if_pos hh]
      have : orb 1 g = 1 := by unfold orb; rw [if_neg (by omega)]
      show _ = (_, (_, orb 1 g, _))
      rw [this]
    · rw [if_neg hh, if_neg hh]
theorem k_waitNoLonger {N tr st sp : Nat} {e : Nat → NU} {d : ND} {h : HP} {Q : HP → Prop} (hN : 33 < N) (h3 : h.1 N 3 = nI tr) (ht : tr ≤ 4) (hb : CB h.1 N (st, sp, e)) (hd : CD h.1 N d) (hd1 : d.2.1 ≤ 1 ∧ d.2.2.1 ≤ 1) (hok : ∀ k, k < sp → EOk tr (e k)) (hQ : ∀ h' : HP, h'.2 = h.2 → CB h'.1 N (ldA sp (st, sp, (gu tr sp (e, d)).1)) → CD h'.1 N (0, orb (gu tr sp (e, d)).2.2.1 d.2.2.1, (gu tr sp (e, d)).2.2.2) → Fr (sGu8 N) h.1 h'.1 → Q h') : P_X3_waitNoLonger N h Q := by
  unfold P_X3_waitNoLonger
  refine k_giveUp hN h3 ht hb hd hok fun h1 g1 gb gd gf => ?_
  have gd1 := gu_d (tr := tr) (z := (e, d)) sp
  obtain ⟨a1, a2, a3, a4, a5⟩ := gd
  have fin : ∀ (v : Nat) (z : Int32), z = nI v → orb (gu tr sp (e, d)).2.2.1 d.2.2.1 = v → Q (si (si h1 N 8 0) N 9 z) := by
    intro v z hz hv
    refine hQ _ g1 ?_ ?_ ((gf.mono fun a b q => Or.inl q).tr ((Fr.si (Or.inr ⟨rfl, rfl⟩)).tr (Fr.si (Or.inl (Or.inl ⟨rfl, by omega⟩)))))
    · exact gb.fr ((si_p (by decide) _).trans (si_p (by decide) _)) ((si_p (by decide) _).trans (si_p (by decide) _)) fun a s h1 h2 => (si_o (by omega) _).trans (si_o (by omega) _)
    · refine ⟨(si_p (by decide) _).trans (si_s ..), ?_, ((si_p (by decide) _).trans (si_p (by decide) _)).trans a3, ((si_p (by decide) _).trans (si_p (by decide) _)).trans a4, ((si_p (by decide) _).trans (si_p (by decide) _)).trans a5⟩
      rw [si_s, hz, hv]
  have q1 : (gu tr sp (e, d)).2.2.1 ≤ 1 := by
    have := gd1.2.2
    simp only at this
    omega
  have q2 : (gu tr sp (e, d)).2.2.2.1 = d.2.2.1 := gd1.2.1
  rw [si_p (by decide), a2, si_p (by decide), a3, q2, n0, n_ueq (by omega) (by omega), n_ueq (by omega) (by omega)]
  refine ⟨fun hz => fin 1 _ rfl ?_, fun hz => ⟨fun hy => fin 0 _ rfl ?_, fun hy => fin 1 _ rfl ?_⟩⟩
  · unfold orb; rw [if_neg (by omega)]
  · unfold orb; rw [if_pos (by omega)]
  · unfold orb; rw [if_neg (by omega)]
