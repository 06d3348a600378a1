/-! Near end of a session that is open: abstract, and what stands for it on both sides. -/
abbrev NU : Type := Nat × Nat × Nat × Nat
abbrev NB : Type := Nat × Nat × (Nat → NU)
abbrev ND : Type := Nat × Nat × Nat × Int32 × Int32
def EOk (tr : Nat) (u : NU) : Prop := (1 ≤ u.1 ∧ u.1 ≤ 999) ∧ (1 ≤ u.2.1 ∧ u.2.1 ≤ 20) ∧ u.2.2.1 ≤ tr ∧ u.2.2.2 ≤ 1
def upE (e : Nat → NU) (n : Nat) (u : NU) : Nat → NU := fun k => if k = n then u else e k
def guS (tr n : Nat) (z : (Nat → NU) × ND) : (Nat → NU) × ND := if (z.1 n).2.2.2 = 0 ∧ tr ≤ (z.1 n).2.2.1 then (upE z.1 n ((z.1 n).1, (z.1 n).2.1, (z.1 n).2.2.1, 1), (z.2.1, 1, z.2.2.2.1, z.2.2.2.2.1 + 1, z.2.2.2.2.2 + 1)) else z
def gu (tr : Nat) : Nat → (Nat → NU) × ND → (Nat → NU) × ND
  | 0, z => z
  | n + 1, z => guS tr n (gu tr n z)
def ldA : Nat → NB → NB
  | 0, b => b
  | n + 1, b => if (b.2.2 0).2.2.2 = 0 then b else ldA n ((b.1 + 1) % 64, b.2.1 - 1, fun k => b.2.2 (k + 1))
def CE (f : Nat → Nat → Int32) (N s : Nat) (u : NU) : Prop := f (N + 3) s = nI u.1 ∧ f (N + 4) s = nI u.2.1 ∧ f (N + 5) s = nI u.2.2.1 ∧ f (N + 6) s = nI u.2.2.2
def CB (f : Nat → Nat → Int32) (N : Nat) (b : NB) : Prop := b.1 < 64 ∧ b.2.1 ≤ 12 ∧ f N 4 = nI b.1 ∧ f N 5 = nI ((b.1 + b.2.1) % 64) ∧ ∀ k, k < b.2.1 → CE f N ((b.1 + k) % 16) (b.2.2 k)
def CD (f : Nat → Nat → Int32) (N : Nat) (d : ND) : Prop := f N 8 = nI d.1 ∧ f N 9 = nI d.2.1 ∧ f N 10 = nI d.2.2.1 ∧ f N 7 = d.2.2.2.1 ∧ f 4 6 = d.2.2.2.2
def sNr (N a b : Nat) : Prop := (a = N ∧ 4 ≤ b ∧ b ≤ 10) ∨ (N + 1 ≤ a ∧ a ≤ N + 6) ∨ (a = 4 ∧ b = 6)
theorem CE.fr {f f' : Nat → Nat → Int32} {N s : Nat} {u : NU} (h : CE f N s u) (h3 : ∀ a, N + 3 ≤ a → a ≤ N + 6 → f' a s = f a s) : CE f' N s u := ⟨(h3 _ (by omega) (by omega)).trans h.1, (h3 _ (by omega) (by omega)).trans h.2.1, (h3 _ (by omega) (by omega)).trans h.2.2.1, (h3 _ (by omega) (by omega)).trans h.2.2.2⟩
theorem CB.fr {f f' : Nat → Nat → Int32} {N : Nat} {b : NB} (h : CB f N b) (h4 : f' N 4 = f N 4) (h5 : f' N 5 = f N 5) (h3 : ∀ a s, N + 3 ≤ a → a ≤ N + 6 → f' a s = f a s) : CB f' N b := ⟨h.1, h.2.1, h4.trans h.2.2.1, h5.trans h.2.2.2.1, fun k hk => (h.2.2.2.2 k hk).fr fun a h1 h2 => h3 a _ h1 h2⟩
theorem k_spread {N st sp : Nat} {e : Nat → NU} {h : HP} {Q : Int32 → HP → Prop} (hb : CB h.1 N (st, sp, e)) (hQ : Q (nI sp) h) : P_X3_spread N h Q := by
  obtain ⟨h1, h2, h3, h4, -⟩ := hb
  simp only at h1 h2 h3 h4
  unfold P_X3_spread
  rw [h3, h4, p_ahead h1 (by omega), show ((st + sp) % 64 + 64 - st) % 64 = sp by omega]
  exact hQ
theorem upE_s (e : Nat → NU) (n : Nat) (u : NU) : upE e n u n = u := if_pos rfl
theorem upE_o {e : Nat → NU} {n k : Nat} {u : NU} (h : k ≠ n) : upE e n u k = e k := if_neg h
theorem CB.up {h : HP} {N st sp n j : Nat} {e : Nat → NU} {u : NU} {z : Int32} (hb : CB h.1 N (st, sp, e)) (hn : n < sp) (hj : j = (st + n) % 16) (a : Nat) (ha : N + 3 ≤ a) (hu : CE (si h a j z).1 N j u) : CB (si h a j z).1 N (st, sp, upE e n u) := by
  obtain ⟨h1, h2, h3, h4, h5⟩ := hb
  simp only at h1 h2 h3 h4 h5
  refine ⟨h1, h2, ?_, ?_, fun k hk => ?_⟩
  · show (si h a j z).1 N 4 = _
    rw [si_o (by omega)]; exact h3
  · show (si h a j z).1 N 5 = _
    rw [si_o (by omega)]; exact h4
  · show CE _ N ((st + k) % 16) (upE e n u k)
    have hk' : k < sp := hk
    by_cases hkn : k = n
    · subst hkn
      rw [upE_s, ← hj]; exact hu
    · rw [upE_o hkn]
      exact (h5 k hk).fr fun a h1 h2 => si_p (by omega) _
theorem gu_hi {tr : Nat} {z : (Nat → NU) × ND} : ∀ n k, n ≤ k → (gu tr n z).1 k = z.1 k := by
  intro n
  induction n with
  | zero => intro k _; rfl
  | succ n ih =>
    intro k hk
    show (guS tr n (gu tr n z)).1 k = _
    unfold guS
    split
    · show upE _ _ _ _ = _
      rw [upE_o (by omega)]; exact ih k (by omega)
    · exact ih k (by omega)
theorem gu_ok {tr sp : Nat} {z : (Nat → NU) × ND} (h : ∀ k, k < sp → EOk tr (z.1 k)) : ∀ n k, k < sp → EOk tr ((gu tr n z).1 k) := by
  intro n
  induction n with
  | zero => exact h
  | succ n ih =>
    intro k hk
    show EOk tr ((guS tr n (gu tr n z)).1 k)
    unfold guS
    split
    · show EOk tr (upE _ _ _ _)
      by_cases hkn : k = n
      · subst hkn
        rw [upE_s]
        obtain ⟨a, b, c, d⟩ := ih k hk
        exact ⟨a, b, c, Nat.le_refl 1⟩
      · rw [upE_o hkn]; exact ih k hk
    · exact ih k hk
theorem gu_lt {tr : Nat} {z : (Nat → NU) × ND} : ∀ n k, k < n → ((gu tr n z).1 k).2.2.2 = 0 → ((gu tr n z).1 k).2.2.1 < tr := by
  intro n
  induction n with
  | zero => intro k hk; omega
  | succ n ih =>
    intro k hk
    show ((guS tr n (gu tr n z)).1 k).2.2.2 = 0 → ((guS tr n (gu tr n z)).1 k).2.2.1 < tr
    unfold guS
    split
    · show (upE _ _ _ _ : NU).2.2.2 = 0 → (upE _ _ _ _ : NU).2.2.1 < tr
      by_cases hkn : k = n
      · subst hkn
        rw [upE_s]
        intro hz; exact absurd (show (1 : Nat) = 0 from hz) (by decide)
      · rw [upE_o hkn]; exact ih k (by omega)
    · rename_i hh
      by_cases hkn : k = n
      · subst hkn
        intro hz
        by_cases hq : tr ≤ ((gu tr k z).1 k).2.2.1
        · exact absurd ⟨hz, hq⟩ hh
        · omega
      · exact ih k (by omega)
theorem gu_d {tr : Nat} {z : (Nat → NU) × ND} : ∀ n, (gu tr n z).2.1 = z.2.1 ∧ (gu tr n z).2.2.2.1 = z.2.2.2.1 ∧ ((gu tr n z).2.2.1 = z.2.2.1 ∨ (gu tr n z).2.2.1 = 1) := by
  intro n
  induction n with
  | zero => exact ⟨rfl, rfl, Or.inl rfl⟩
  | succ n ih =>
    show (guS tr n (gu tr n z)).2.1 = _ ∧ (guS tr n (gu tr n z)).2.2.2.1 = _ ∧ ((guS tr n (gu tr n z)).2.2.1 = _ ∨ (guS tr n (gu tr n z)).2.2.1 = _)
    unfold guS
    split
    · exact ⟨ih.1, ih.2.1, Or.inr rfl⟩
    · exact ih
theorem ldA_ok {tr : Nat} : ∀ n (b : NB), n ≤ b.2.1 → b.1 < 64 → (∀ k, k < b.2.1 → EOk tr (b.2.2 k)) → (ldA n b).1 < 64 ∧ (ldA n b).2.1 ≤ b.2.1 ∧ (∀ k, k < (ldA n b).2.1 → EOk tr ((ldA n b).2.2 k)) ∧ ∀ k, k < (ldA n b).2.1 → ∃ j, j < b.2.1 ∧ (ldA n b).2.2 k = b.2.2 j := by
  intro n
  induction n with
  | zero => intro b _ h1 h2; exact ⟨h1, Nat.le_refl _, h2, fun k hk => ⟨k, hk, rfl⟩⟩
  | succ n ih =>
    intro b hn h1 h2
    unfold ldA
    split
    · exact ⟨h1, Nat.le_refl _, h2, fun k hk => ⟨k, hk, rfl⟩⟩
    · obtain ⟨a, b', c, d⟩ := ih ((b.1 + 1) % 64, b.2.1 - 1, fun k => b.2.2 (k + 1)) (show n ≤ b.2.1 - 1 by omega) (show (b.1 + 1) % 64 < 64 by omega) (fun k hk => h2 (k + 1) (by have hk' : k < b.2.1 - 1 := hk; omega))
      refine ⟨a, ?_, c, fun k hk => ?_⟩
      · have : (ldA n ((b.1 + 1) % 64, b.2.1 - 1, fun k => b.2.2 (k + 1))).2.1 ≤ b.2.1 - 1 := b'
        omega
      · obtain ⟨j, hj, ej⟩ := d k hk
        have hj' : j < b.2.1 - 1 := hj
        exact ⟨j + 1, by omega, ej⟩
def sGu (N a b : Nat) : Prop := (a = N ∧ (b = 4 ∨ b = 7 ∨ b = 9)) ∨ a = N + 6 ∨ (a = 4 ∧ b = 6)
theorem CB.sh {h : HP} {N : Nat} {b : NB} (hb : CB h.1 N b) (hs : 0 < b.2.1) : CB (si h N 4 (nI ((b.1 + 1) % 64))).1 N ((b.1 + 1) % 64, b.2.1 - 1, fun k => b.2.2 (k + 1)) := by
  obtain ⟨h1, h2, h3, h4, h5⟩ := hb
  refine ⟨show (b.1 + 1) % 64 < 64 by omega, show b.2.1 - 1 ≤ 12 by omega, by rw [si_s], ?_, fun k hk => ?_⟩
  · rw [si_p (by decide), h4]
    show nI _ = nI (((b.1 + 1) % 64 + (b.2.1 - 1)) % 64)
    congr 1; omega
  · have hk' : k < b.2.1 - 1 := hk
    have e : ((b.1 + 1) % 64 + k) % 16 = (b.1 + (k + 1)) % 16 := by omega
    show CE _ N (((b.1 + 1) % 64 + k) % 16) (b.2.2 (k + 1))
    rw [e]
    exact (h5 (k + 1) (by omega)).fr fun a h1 h2 => si_o (by omega) _
theorem k_giveUp {N tr st sp : Nat} {e : Nat → NU} {d : ND} {h : HP} {Q : HP → Prop} (hN : 33 < N) (h3 : h.1 N 3 = nI tr) (ht : tr ≤ 4) (hb : CB h.1 N (st, sp, e)) (hd : CD h.1 N d) (hok : ∀ k, k < sp → EOk tr (e k)) (hQ : ∀ h' : HP, h'.2 = h.2 → CB h'.1 N (ldA sp (st, sp, (gu tr sp (e, d)).1)) → CD h'.1 N (gu tr sp (e, d)).2 → Fr (sGu N) h.1 h'.1 → Q h') : P_X3_giveUp N h Q := by
  have hsp : sp ≤ 12 := hb.2.1
  have hst : st < 64 := hb.1
  unfold P_X3_giveUp
  refine k_spread hb ?_
  show Lp2 _ _ _
  refine lpc2 fun X hX => ?_
  have loop2 : ∀ (h1 : HP) (d1 : ND), h1.2 = h.2 → CB h1.1 N (st, sp, (gu tr sp (e, d)).1) → CD h1.1 N (gu tr sp (e, d)).2 → Fr (sGu N) h.1 h1.1 → Lp2 (fun X_87 (i2_87 : Int32) (h_87 : HP) => ((nI sp ≤ i2_87) → Q h_87) ∧ ((¬ nI sp ≤ i2_87) → (P_X8_slot (h_87.1 N 4) h_87 (fun (v_100 : Int32) (h_100 : HP) => (vp_in v_100 16) ∧ ((((h_100.1 (N + 6) v_100.toNatClampNeg) = 0) → Q h_100) ∧ ((¬ (h_100.1 (N + 6) v_100.toNatClampNeg) = 0) → (P_X8_round ((h_100.1 N 4) + 1) h_100 (fun (v_114 : Int32) (h_114 : HP) => X_87 (i2_87 + 1) (si h_114 N 4 v_114))))))))) 0 h1 := by
    intro h1 _ e1 eb ed ef
    refine lpc2 fun Y hY => ?_
    have key : ∀ n k (b : NB) (h2 : HP), n = b.2.1 → k + n = sp → h2.2 = h.2 → CB h2.1 N b → (∀ j, j < b.2.1 → EOk tr (b.2.2 j)) → CD h2.1 N (gu tr sp (e, d)).2 → Fr (sGu N) h.1 h2.1 → ldA n b = ldA sp (st, sp, (gu tr sp (e, d)).1) → Y (nI k) h2 := by
      intro n
      induction n with
      | zero =>
        intro k b h2 hn hk g1 gb gok gd gf gl
        refine hY _ _ ⟨fun _ => ?_, fun hz => absurd ?_ hz⟩
        · refine hQ h2 g1 ?_ gd gf
          rw [← gl]; exact gb
        · rw [n_ule (by omega) (by omega)]; omega
      | succ n ih =>
        intro k b h2 hn hk g1 gb gok gd gf gl
        refine hY _ _ ⟨fun hz => ?_, fun _ => ?_⟩
        · rw [n_ule (by omega) (by omega)] at hz; omega
        · have hb1 : b.1 < 64 := gb.1
          have ce := gb.2.2.2.2 0 (by omega)
          have ok0 := gok 0 (by omega)
          rw [Nat.add_zero] at ce
          rw [gb.2.2.1, p_slot (by omega)]
          refine ⟨n_in (by omega) (by omega), ?_, ?_⟩
          · rw [n_cl (by omega), ce.2.2.2, n0, n_ueq (by have := ok0.2.2.2; omega) (by omega)]
            intro hz
            refine hQ h2 g1 ?_ gd gf
            rw [← gl]
            unfold ldA
            rw [if_pos hz]; exact gb
          · rw [n_cl (by omega), ce.2.2.2, n0, n_ueq (by have := ok0.2.2.2; omega) (by omega)]
            intro hz
            rw [gb.2.2.1, n1, nI_add, p_round (by omega), nI_add]
            refine ih (k + 1) ((b.1 + 1) % 64, b.2.1 - 1, fun j => b.2.2 (j + 1)) _ (show n = b.2.1 - 1 by omega) (by omega) g1 (gb.sh (by omega)) (fun j hj => gok (j + 1) (by have : j < b.2.1 - 1 := hj; omega)) ?_ (gf.tr (Fr.si (Or.inl ⟨rfl, Or.inl rfl⟩))) ?_
            · obtain ⟨a1, a2, a3, a4, a5⟩ := gd
              exact ⟨by rw [si_p (by decide)]; exact a1, by rw [si_p (by decide)]; exact a2, by rw [si_p (by decide)]; exact a3, by rw [si_p (by decide)]; exact a4, by rw [si_p (by decide)]; exact a5⟩
            · rw [← gl]
              conv => rhs; unfold ldA
              rw [if_neg hz]
    exact key sp 0 _ h1 rfl (by omega) e1 eb (gu_ok hok sp) ed ef rfl
  have key : ∀ m n (h1 : HP), n + m = sp → h1.2 = h.2 → CB h1.1 N (st, sp, (gu tr n (e, d)).1) → CD h1.1 N (gu tr n (e, d)).2 → Fr (sGu N) h.1 h1.1 → X (nI n) h1 := by
    intro m
    induction m with
    | zero =>
      intro n h1 hn e1 eb ed ef
      have : n = sp := by omega
      subst this
      refine hX _ _ ⟨fun _ => loop2 h1 d e1 eb ed ef, fun hz => absurd ?_ hz⟩
      rw [n_ule (by omega) (by omega)]; exact Nat.le_refl _
    | succ m ih =>
      intro n h1 hn e1 eb ed ef
      have ok := gu_ok (z := (e, d)) hok n n (by omega)
      have e3 : h1.1 N 3 = nI tr := by rw [ef _ _ (by rintro (⟨-, z⟩ | z | ⟨z, -⟩) <;> omega)]; exact h3
      have ce : CE h1.1 N ((st + n) % 16) ((gu tr n (e, d)).1 n) := eb.2.2.2.2 n (by show n < sp; omega)
      refine hX _ _ ⟨fun hz => ?_, fun _ => ?_⟩
      · rw [n_ule (by omega) (by omega)] at hz; omega
      · rw [show h1.1 N 4 = nI st from eb.2.2.1, nI_add, p_slot (by omega)]
        have ok4 := ok.2.2.2
        have ok3 := ok.2.2.1
        refine ⟨n_in (by omega) (by omega), ?_, ?_⟩
        · rw [n_cl (by omega), ce.2.2.2, n0, n_ueq (by omega) (by omega)]
          intro hz
          rw [n1, nI_add]
          have q : gu tr (n + 1) (e, d) = gu tr n (e, d) := by
            show guS tr n (gu tr n (e, d)) = _
            unfold guS
            rw [if_neg (fun z => hz z.1)]
          exact ih (n + 1) h1 (by omega) e1 (by rw [q]; exact eb) (by rw [q]; exact ed) ef
        · rw [n_cl (by omega), ce.2.2.2, n0, n_ueq (by omega) (by omega)]
          intro hz
          refine ⟨n_in (by omega) (by omega), ?_, ?_⟩
          · rw [ce.2.2.1, e3, n_ult (by omega) (by omega), n1, nI_add]
            intro hlt
            have q : gu tr (n + 1) (e, d) = gu tr n (e, d) := by
              show guS tr n (gu tr n (e, d)) = _
              unfold guS
              rw [if_neg (fun z => by have := z.2; omega)]
            exact ih (n + 1) h1 (by omega) e1 (by rw [q]; exact eb) (by rw [q]; exact ed) ef
          · rw [ce.2.2.1, e3, n_ult (by omega) (by omega)]
            intro hlt
            refine ⟨n_in (by omega) (by omega), ?_⟩
            have q : gu tr (n + 1) (e, d) = (upE (gu tr n (e, d)).1 n (((gu tr n (e, d)).1 n).1, ((gu tr n (e, d)).1 n).2.1, ((gu tr n (e, d)).1 n).2.2.1, 1), ((gu tr n (e, d)).2.1, 1, (gu tr n (e, d)).2.2.2.1, (gu tr n (e, d)).2.2.2.2.1 + 1, (gu tr n (e, d)).2.2.2.2.2 + 1)) := by
              show guS tr n (gu tr n (e, d)) = _
              unfold guS
              rw [if_pos ⟨hz, by omega⟩]
            rw [show nI n + 1 = nI (n + 1) from nI_add n 1]
            refine ih (n + 1) _ (by omega) e1 ?_ ?_ ?_
            · rw [q]
              refine CB.fr (f := (si h1 (N + 6) ((st + n) % 16) 1).1) (CB.up eb (show n < sp by omega) rfl (N + 6) (by omega) ?_) ?_ ?_ ?_
              · exact ⟨by rw [si_o (by omega)]; exact ce.1, by rw [si_o (by omega)]; exact ce.2.1, by rw [si_o (by omega)]; exact ce.2.2.1, by rw [si_s]; rfl⟩
              · rw [si_p (by decide), si_p (by decide), si_p (by decide)]
              · rw [si_p (by decide), si_p (by decide), si_p (by decide)]
              · intro a s ha hb'
                rw [si_o (by omega), si_o (by omega), si_o (by omega)]
            · rw [q]
              obtain ⟨a1, a2, a3, a4, a5⟩ := ed
              refine ⟨?_, ?_, ?_, ?_, ?_⟩
              · rw [si_p (by decide), si_p (by decide), si_p (by decide), si_o (by omega)]; exact a1
              · rw [si_p (by decide), si_p (by decide), si_s]; rfl
              · rw [si_p (by decide), si_p (by decide), si_p (by decide), si_o (by omega)]; exact a3
              · rw [si_p (by decide), si_s, si_p (by decide), si_o (by omega), a4]
              · rw [si_s, si_p (by decide), si_p (by decide), si_o (by omega), a5]
            · exact ef.tr (((Fr.si (Or.inr (Or.inl rfl))).tr ((Fr.si (Or.inl ⟨rfl, Or.inr (Or.inr rfl)⟩)).tr ((Fr.si (Or.inl ⟨rfl, Or.inr (Or.inl rfl)⟩)).tr (Fr.si (Or.inr (Or.inr ⟨rfl, rfl⟩)))))))
  exact key sp 0 h (by omega) rfl hb hd Fr.rf
