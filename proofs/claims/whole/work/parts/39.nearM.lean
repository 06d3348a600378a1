/-! Near end of an open session: the reference's side of giving up. -/
def ME (g : Nat → Nat → Int32) (s : Nat) (u : NU) : Prop := g 95 s = nI u.1 ∧ g 96 s = nI u.2.1 ∧ g 97 s = nI u.2.2.1 ∧ g 98 s = nI u.2.2.2
def MB (g : Nat → Nat → Int32) (c : Nat) (b : NB) : Prop := b.1 < 64 ∧ b.2.1 ≤ 12 ∧ g 86 c = nI b.1 ∧ g 87 c = nI ((b.1 + b.2.1) % 64) ∧ ∀ k, k < b.2.1 → ME g (64 * c + (b.1 + k) % 64) (b.2.2 k)
def MD (g : Nat → Nat → Int32) (c : Nat) (d : ND) : Prop := g 88 c = nI d.1 ∧ g 89 c = nI d.2.1 ∧ g 90 c = nI d.2.2.1 ∧ g 91 c = d.2.2.2.1 ∧ g 80 6 = d.2.2.2.2
def sGuM (c a b : Nat) : Prop := ((a = 86 ∨ a = 88 ∨ a = 89 ∨ a = 91) ∧ b = c) ∨ (a = 98 ∧ 64 * c ≤ b ∧ b < 64 * c + 64) ∨ (a = 80 ∧ b = 6)
theorem ME.fr {f f' : Nat → Nat → Int32} {s : Nat} {u : NU} (h : ME f s u) (h3 : ∀ a, 95 ≤ a → a ≤ 98 → f' a s = f a s) : ME f' s u := ⟨(h3 _ (by omega) (by omega)).trans h.1, (h3 _ (by omega) (by omega)).trans h.2.1, (h3 _ (by omega) (by omega)).trans h.2.2.1, (h3 _ (by omega) (by omega)).trans h.2.2.2⟩
theorem MB.fr {f f' : Nat → Nat → Int32} {c : Nat} {b : NB} (h : MB f c b) (h4 : f' 86 c = f 86 c) (h5 : f' 87 c = f 87 c) (h3 : ∀ a s, 95 ≤ a → a ≤ 98 → f' a s = f a s) : MB f' c b := ⟨h.1, h.2.1, h4.trans h.2.2.1, h5.trans h.2.2.2.1, fun k hk => (h.2.2.2.2 k hk).fr fun a h1 h2 => h3 a _ h1 h2⟩
theorem m_spread {c st sp : Nat} {e : Nat → NU} {h : HP} {Q : Int32 → HP → Prop} (hb : MB h.1 c (st, sp, e)) (hQ : Q (nI sp) h) : P_X9_ahead (h.1 86 c) (h.1 87 c) h Q := by
  obtain ⟨h1, h2, h3, h4, -⟩ := hb
  simp only at h1 h2 h3 h4
  rw [h3, h4, p_aheadM h1 (by omega), show ((st + sp) % 64 + 64 - st) % 64 = sp by omega]
  exact hQ
theorem MB.up {h : HP} {c st sp n j : Nat} {e : Nat → NU} {u : NU} {z : Int32} (hb : MB h.1 c (st, sp, e)) (hn : n < sp) (hj : j = 64 * c + (st + n) % 64) (a : Nat) (ha : 95 ≤ a) (hu : ME (si h a j z).1 j u) : MB (si h a j z).1 c (st, sp, upE e n u) := by
  obtain ⟨h1, h2, h3, h4, h5⟩ := hb
  simp only at h1 h2 h3 h4 h5
  refine ⟨h1, h2, ?_, ?_, fun k hk => ?_⟩
  · show (si h a j z).1 86 c = _
    rw [si_o (by omega)]; exact h3
  · show (si h a j z).1 87 c = _
    rw [si_o (by omega)]; exact h4
  · show ME _ (64 * c + (st + k) % 64) (upE e n u k)
    have hk' : k < sp := hk
    by_cases hkn : k = n
    · subst hkn
      rw [upE_s, ← hj]; exact hu
    · rw [upE_o hkn]
      exact (h5 k hk).fr fun a h1 h2 => si_p (by omega) _
theorem MB.sh {h : HP} {c : Nat} {b : NB} (hb : MB h.1 c b) (hs : 0 < b.2.1) : MB (si h 86 c (nI ((b.1 + 1) % 64))).1 c ((b.1 + 1) % 64, b.2.1 - 1, fun k => b.2.2 (k + 1)) := by
  obtain ⟨h1, h2, h3, h4, h5⟩ := hb
  refine ⟨show (b.1 + 1) % 64 < 64 by omega, show b.2.1 - 1 ≤ 12 by omega, by rw [si_s], ?_, fun k hk => ?_⟩
  · rw [si_o (by decide), h4]
    show nI _ = nI (((b.1 + 1) % 64 + (b.2.1 - 1)) % 64)
    congr 1; omega
  · have hk' : k < b.2.1 - 1 := hk
    have e : ((b.1 + 1) % 64 + k) % 64 = (b.1 + (k + 1)) % 64 := by omega
    show ME _ (64 * c + ((b.1 + 1) % 64 + k) % 64) (b.2.2 (k + 1))
    rw [e]
    exact (h5 (k + 1) (by omega)).fr fun a h1 h2 => si_o (by omega) _
theorem n_at {c st k : Nat} (hc : c < 4) (hs : st + k < 2 ^ 20) : (64 * nI c) + ((nI st + nI k) - (nI st + nI k) / 64 * 64) = nI (64 * c + (st + k) % 64) := by
  rw [nI_add, n_rem64 (by omega), n64, nI_add]
theorem n_nx {st : Nat} (hs : st < 2 ^ 20) : (nI st + 1) - (nI st + 1) / 64 * 64 = nI ((st + 1) % 64) := by
  rw [nI_1, n_rem64 (by omega)]
theorem m_giveUp {c tr st sp : Nat} {e : Nat → NU} {d : ND} {h : HP} {Q : HP → Prop} (hc : c < 4) (h3 : h.1 84 c = nI tr) (ht : tr ≤ 4) (hb : MB h.1 c (st, sp, e)) (hd : MD h.1 c d) (hok : ∀ k, k < sp → EOk tr (e k)) (hQ : ∀ h' : HP, h'.2 = h.2 → MB h'.1 c (ldA sp (st, sp, (gu tr sp (e, d)).1)) → MD h'.1 c (0, (gu tr sp (e, d)).2.2) → Fr (sGuM c) h.1 h'.1 → Q h') : P_X9_giveUp (nI c) h Q := by
  have hic : vp_in (nI c) 4 := n_in hc (by omega)
  have hsp : sp ≤ 12 := hb.2.1
  have hst : st < 64 := hb.1
  unfold P_X9_giveUp
  rw [n_cl (by omega)]
  refine ⟨hic, hic, m_spread hb ?_⟩
  refine lpc2 fun X hX => ?_
  have loop2 : ∀ (h1 : HP), h1.2 = h.2 → MB h1.1 c (st, sp, (gu tr sp (e, d)).1) → MD h1.1 c (gu tr sp (e, d)).2 → Fr (sGuM c) h.1 h1.1 → Lp1 (fun X_109  (h_109 : HP) => (vp_in (nI c) 4) ∧ ((vp_in (nI c) 4) ∧ ((((h_109.1 86 c) = (h_109.1 87 c)) → ((vp_in (nI c) 4) ∧ (Q (si h_109 88 c 0)))) ∧ ((¬ (h_109.1 86 c) = (h_109.1 87 c)) → ((vp_in (nI c) 4) ∧ ((vp_in ((64 * nI c) + (h_109.1 86 c)) 256) ∧ ((((h_109.1 98 ((64 * nI c) + (h_109.1 86 c)).toNatClampNeg) = 0) → ((vp_in (nI c) 4) ∧ (Q (si h_109 88 c 0)))) ∧ ((¬ (h_109.1 98 ((64 * nI c) + (h_109.1 86 c)).toNatClampNeg) = 0) → ((vp_in (nI c) 4) ∧ ((vp_in (nI c) 4) ∧ (X_109 (si h_109 86 c (((h_109.1 86 c) + 1) - ((h_109.1 86 c) + 1) / 64 * 64))))))))))))) h1 := by
    intro h1 e1 eb ed ef
    refine lpc1 fun Y hY => ?_
    have fin : ∀ (h2 : HP) (b : NB), h2.2 = h.2 → MB h2.1 c b → MD h2.1 c (gu tr sp (e, d)).2 → Fr (sGuM c) h.1 h2.1 → b = ldA sp (st, sp, (gu tr sp (e, d)).1) → Q (si h2 88 c 0) := by
      intro h2 b g1 gb gd gf gl
      refine hQ _ g1 ?_ ?_ (gf.tr (Fr.si (Or.inl ⟨by omega, rfl⟩)))
      · rw [← gl]
        exact gb.fr (si_o (by decide) _) (si_o (by decide) _) fun a s h1 h2 => si_o (by omega) _
      · obtain ⟨a1, a2, a3, a4, a5⟩ := gd
        exact ⟨si_s .., (si_o (by decide) _).trans a2, (si_o (by decide) _).trans a3, (si_o (by decide) _).trans a4, (si_o (by decide) _).trans a5⟩
    have key : ∀ n (b : NB) (h2 : HP), n = b.2.1 → h2.2 = h.2 → MB h2.1 c b → (∀ j, j < b.2.1 → EOk tr (b.2.2 j)) → MD h2.1 c (gu tr sp (e, d)).2 → Fr (sGuM c) h.1 h2.1 → ldA n b = ldA sp (st, sp, (gu tr sp (e, d)).1) → Y h2 := by
      intro n
      induction n with
      | zero =>
        intro b h2 hn g1 gb gok gd gf gl
        refine hY _ ⟨hic, hic, fun _ => ⟨hic, fin h2 b g1 gb gd gf gl⟩, fun hz => absurd ?_ hz⟩
        have hb1 : b.1 < 64 := gb.1
        rw [gb.2.2.1, gb.2.2.2.1, ← hn]
        congr 1; omega
      | succ n ih =>
        intro b h2 hn g1 gb gok gd gf gl
        have hb1 : b.1 < 64 := gb.1
        have hb2 : b.2.1 ≤ 12 := gb.2.1
        have ce := gb.2.2.2.2 0 (by omega)
        have ok0 := gok 0 (by omega)
        have o4 := ok0.2.2.2
        rw [Nat.add_zero, Nat.mod_eq_of_lt hb1] at ce
        refine hY _ ⟨hic, hic, fun hz => ?_, fun _ => ⟨hic, ?_, ?_, ?_⟩⟩
        · rw [gb.2.2.1, gb.2.2.2.1, n_ueq (by omega) (by omega)] at hz; omega
        · rw [gb.2.2.1, n64, nI_add]
          exact n_in (by omega) (by omega)
        · rw [gb.2.2.1, n64, nI_add, n_cl (by omega), ce.2.2.2, n0, n_ueq (by omega) (by omega)]
          intro hz
          refine ⟨hic, fin h2 b g1 gb gd gf ?_⟩
          rw [← gl]
          unfold ldA
          rw [if_pos hz]
        · rw [gb.2.2.1, n64, nI_add, n_cl (by omega), ce.2.2.2, n0, n_ueq (by omega) (by omega)]
          intro hz
          refine ⟨hic, hic, ?_⟩
          rw [n_nx (by omega)]
          refine ih ((b.1 + 1) % 64, b.2.1 - 1, fun j => b.2.2 (j + 1)) _ (show n = b.2.1 - 1 by omega) g1 (gb.sh (by omega)) (fun j hj => gok (j + 1) (by have : j < b.2.1 - 1 := hj; omega)) ?_ (gf.tr (Fr.si (Or.inl ⟨by omega, rfl⟩))) ?_
          · obtain ⟨a1, a2, a3, a4, a5⟩ := gd
            exact ⟨(si_o (by decide) _).trans a1, (si_o (by decide) _).trans a2, (si_o (by decide) _).trans a3, (si_o (by decide) _).trans a4, (si_o (by decide) _).trans a5⟩
          · rw [← gl]
            conv => rhs; unfold ldA
            rw [if_neg hz]
    exact key sp _ h1 rfl e1 eb (gu_ok hok sp) ed ef rfl
  have key : ∀ m n (h1 : HP), n + m = sp → h1.2 = h.2 → MB h1.1 c (st, sp, (gu tr n (e, d)).1) → MD h1.1 c (gu tr n (e, d)).2 → Fr (sGuM c) h.1 h1.1 → X (nI n) h1 := by
    intro m
    induction m with
    | zero =>
      intro n h1 hn e1 eb ed ef
      have : n = sp := by omega
      subst this
      refine hX _ _ ⟨fun _ => loop2 h1 e1 eb ed ef, fun hz => absurd ?_ hz⟩
      rw [n_ule (by omega) (by omega)]; exact Nat.le_refl _
    | succ m ih =>
      intro n h1 hn e1 eb ed ef
      have ok := gu_ok (z := (e, d)) hok n n (by omega)
      have e3 : h1.1 84 c = nI tr := by rw [ef _ _ (by rintro (⟨z, -⟩ | ⟨z, -⟩ | ⟨z, -⟩) <;> omega)]; exact h3
      have ce : ME h1.1 (64 * c + (st + n) % 64) ((gu tr n (e, d)).1 n) := eb.2.2.2.2 n (by show n < sp; omega)
      refine hX _ _ ⟨fun hz => ?_, fun _ => ?_⟩
      · rw [n_ule (by omega) (by omega)] at hz; omega
      · rw [show h1.1 86 c = nI st from eb.2.2.1, n_at hc (by omega), n_cl (by omega), nI_1]
        have ok4 := ok.2.2.2
        have ok3 := ok.2.2.1
        have hin : vp_in (nI (64 * c + (st + n) % 64)) 256 := n_in (by omega) (by omega)
        rw [ce.2.2.2, n0, n_ueq (by omega) (by omega)]
        refine ⟨hic, hin, fun hz => ?_, fun hz => ⟨hin, hic, ?_, ?_⟩⟩
        · have q : gu tr (n + 1) (e, d) = gu tr n (e, d) := by
            show guS tr n (gu tr n (e, d)) = _
            unfold guS
            rw [if_neg (fun z => hz z.1)]
          exact ih (n + 1) h1 (by omega) e1 (by rw [q]; exact eb) (by rw [q]; exact ed) ef
        · rw [ce.2.2.1, e3, n_ueq (by omega) (by omega)]
          intro hlt
          have q : gu tr (n + 1) (e, d) = gu tr n (e, d) := by
            show guS tr n (gu tr n (e, d)) = _
            unfold guS
            rw [if_neg (fun z => by have := z.2; omega)]
          exact ih (n + 1) h1 (by omega) e1 (by rw [q]; exact eb) (by rw [q]; exact ed) ef
        · rw [ce.2.2.1, e3, n_ueq (by omega) (by omega)]
          intro hlt
          refine ⟨hin, hic, hic, hic, ?_⟩
          have q : gu tr (n + 1) (e, d) = (upE (gu tr n (e, d)).1 n (((gu tr n (e, d)).1 n).1, ((gu tr n (e, d)).1 n).2.1, ((gu tr n (e, d)).1 n).2.2.1, 1), ((gu tr n (e, d)).2.1, 1, (gu tr n (e, d)).2.2.2.1, (gu tr n (e, d)).2.2.2.2.1 + 1, (gu tr n (e, d)).2.2.2.2.2 + 1)) := by
            show guS tr n (gu tr n (e, d)) = _
            unfold guS
            rw [if_pos ⟨hz, by omega⟩]
          refine ih (n + 1) _ (by omega) e1 ?_ ?_ ?_
          · rw [q]
            refine MB.fr (f := (si h1 98 (64 * c + (st + n) % 64) 1).1) (MB.up eb (show n < sp by omega) rfl 98 (by omega) ?_) ?_ ?_ ?_
            · exact ⟨by rw [si_o (by omega)]; exact ce.1, by rw [si_o (by omega)]; exact ce.2.1, by rw [si_o (by omega)]; exact ce.2.2.1, by rw [si_s]; rfl⟩
            · rw [si_o (by decide), si_o (by decide), si_o (by decide)]
            · rw [si_o (by decide), si_o (by decide), si_o (by decide)]
            · intro a s ha hb'
              rw [si_o (by omega), si_o (by omega), si_o (by omega)]
          · rw [q]
            obtain ⟨a1, a2, a3, a4, a5⟩ := ed
            refine ⟨?_, ?_, ?_, ?_, ?_⟩
            · rw [si_o (by decide), si_o (by decide), si_o (by decide), si_o (by decide)]; exact a1
            · rw [si_s]; rfl
            · rw [si_o (by decide), si_o (by decide), si_o (by decide), si_o (by decide)]; exact a3
            · rw [si_o (by decide), si_o (by decide), si_s, si_o (by decide), a4]
            · rw [si_o (by decide), si_s, si_o (by decide), si_o (by decide), a5]
          · exact ef.tr (((Fr.si (Or.inr (Or.inl ⟨rfl, by omega, by omega⟩))).tr ((Fr.si (Or.inl ⟨by omega, rfl⟩)).tr ((Fr.si (Or.inr (Or.inr ⟨rfl, rfl⟩))).tr (Fr.si (Or.inl ⟨by omega, rfl⟩))))))
  exact key sp 0 h (by omega) rfl hb hd Fr.rf
