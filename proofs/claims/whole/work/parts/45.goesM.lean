/-! Near end: a bundle goes, on the side of the reference. -/
def sSnd (k a b : Nat) : Prop := (a = 111 ∧ 8 * k ≤ b ∧ b < 8 * k + 8) ∨ (a = 78 ∧ b = 39) ∨ (a = 80 ∧ b = 0)
def RowM (g : Nat → Nat → Int32) (k : Nat) (i1 i2 i3 i4 i5 i6 i7 i8 : Int32) : Prop := g 111 (8 * k) = i1 ∧ g 111 (8 * k + 1) = i2 ∧ g 111 (8 * k + 2) = i3 ∧ g 111 (8 * k + 3) = i4 ∧ g 111 (8 * k + 4) = i5 ∧ g 111 (8 * k + 5) = i6 ∧ g 111 (8 * k + 6) = i7 ∧ g 111 (8 * k + 7) = i8
theorem n_addl (a b : Nat) {B : Int32} (hB : B = nI b) : nI a + B = nI (a + b) := by rw [hB, nI_add]
theorem m_send {k : Nat} {i1 i2 i3 i4 i5 : Int32} {h : HP} {Q : Int32 → HP → Prop} (hk : k < 16) (hs : h.1 78 39 = nI k) (hQ : ∀ h' : HP, h'.2 = h.2 → RowM h'.1 k i1 i2 i3 i4 i5 0 0 0 → h'.1 78 39 = nI (k + 1) → h'.1 80 0 = h.1 80 0 + 1 → Fr (sSnd k) h.1 h'.1 → Q (nI (8 * k)) h') : P_X9_send i1 i2 i3 i4 i5 h Q := by
  unfold P_X9_send
  rw [hs, n8]
  rw [n_addl (B := 1) (8 * k) 1 rfl, n_addl (B := 2) (8 * k) 2 rfl, n_addl (B := 3) (8 * k) 3 rfl, n_addl (B := 4) (8 * k) 4 rfl, n_addl (B := 5) (8 * k) 5 rfl, n_addl (B := 6) (8 * k) 6 rfl, n_addl (B := 7) (8 * k) 7 rfl]
  rw [n_cl (by omega), n_cl (by omega), n_cl (by omega), n_cl (by omega), n_cl (by omega), n_cl (by omega), n_cl (by omega), n_cl (by omega)]
  refine ⟨n_in (by omega) (by omega), n_in (by omega) (by omega), n_in (by omega) (by omega), n_in (by omega) (by omega), n_in (by omega) (by omega), n_in (by omega) (by omega), n_in (by omega) (by omega), n_in (by omega) (by omega), ?_⟩
  refine hQ _ rfl ?_ ?_ ?_ ?_
  · refine ⟨?_, ?_, ?_, ?_, ?_, ?_, ?_, ?_⟩ <;> simp [si_1]
  · rw [si_o (by decide), si_s]
    rw [si_o (by decide), si_o (by decide), si_o (by decide), si_o (by decide), si_o (by decide), si_o (by decide), si_o (by decide), si_o (by decide), hs, nI_1]
  · rw [si_s, si_o (by decide)]
    rw [si_o (by decide), si_o (by decide), si_o (by decide), si_o (by decide), si_o (by decide), si_o (by decide), si_o (by decide), si_o (by decide)]
  · have q : ∀ j, j < 8 → sSnd k 111 (8 * k + j) := fun j hj => Or.inl ⟨rfl, by omega, by omega⟩
    exact (Fr.si (q 0 (by omega))).tr ((Fr.si (q 1 (by omega))).tr ((Fr.si (q 2 (by omega))).tr ((Fr.si (q 3 (by omega))).tr ((Fr.si (q 4 (by omega))).tr ((Fr.si (q 5 (by omega))).tr ((Fr.si (q 6 (by omega))).tr ((Fr.si (q 7 (by omega))).tr ((Fr.si (Or.inr (Or.inl ⟨rfl, rfl⟩))).tr (Fr.si (Or.inr (Or.inr ⟨rfl, rfl⟩)))))))))))
def sGvM (c a b : Nat) : Prop := ((a = 87 ∨ a = 92) ∧ b = c) ∨ ((a = 93 ∨ a = 94) ∧ 24 * c ≤ b ∧ b < 24 * c + 24) ∨ (95 ≤ a ∧ a ≤ 98 ∧ 64 * c ≤ b ∧ b < 64 * c + 64)
theorem MB.cg {f : Nat → Nat → Int32} {c st sp : Nat} {e e' : Nat → NU} (h : MB f c (st, sp, e)) (he : ∀ k, k < sp → e' k = e k) : MB f c (st, sp, e') := ⟨h.1, h.2.1, h.2.2.1, h.2.2.2.1, fun k hk => by
  show ME f (64 * c + (st + k) % 64) (e' k)
  rw [he k hk]; exact h.2.2.2.2 k hk⟩
theorem m_give {c st sp qn n0' : Nat} {e : Nat → NU} {q : Nat → Nat × Nat} {h : HP} {Q : HP → Prop} (hc : c < 4) (hb : MB h.1 c (st, sp, e)) (hq : MQu h.1 c qn q) (hg : n0' ≤ qn) (hg2 : sp + n0' ≤ 12) (hQ : ∀ h' : HP, h'.2 = h.2 → MB h'.1 c (st, sp + n0', UU sp e q) → MQu h'.1 c (qn - n0') (fun i => q (i + n0')) → Fr (sGvM c) h.1 h'.1 → Q h') : P_X9_give (nI c) (nI n0') h Q := by
  have hic : vp_in (nI c) 4 := n_in hc (by omega)
  have hst : st < 64 := hb.1
  have hqn := hq.1
  unfold P_X9_give
  rw [n_cl (by omega)]
  refine lpc2 fun X hX => ?_
  have loop2 : ∀ h1 : HP, h1.2 = h.2 → MB h1.1 c (st, sp + n0', UU sp e q) → (∀ i, i < qn → h1.1 93 (24 * c + i) = nI (q i).1 ∧ h1.1 94 (24 * c + i) = nI (q i).2) → h1.1 92 c = nI (qn - n0') → Fr (sGvM c) h.1 h1.1 → Lp2 (fun X_107 (i3_107 : Int32) (h_107 : HP) => (vp_in (nI c) 4) ∧ ((((h_107.1 92 c) ≤ i3_107) → Q h_107) ∧ ((¬ (h_107.1 92 c) ≤ i3_107) → ((vp_in (((24 * nI c) + i3_107) + nI n0') 96) ∧ ((vp_in ((24 * nI c) + i3_107) 96) ∧ ((vp_in (((24 * nI c) + i3_107) + nI n0') 96) ∧ ((vp_in ((24 * nI c) + i3_107) 96) ∧ (X_107 (i3_107 + 1) (si (si h_107 93 ((24 * nI c) + i3_107).toNatClampNeg (h_107.1 93 (((24 * nI c) + i3_107) + nI n0').toNatClampNeg)) 94 ((24 * nI c) + i3_107).toNatClampNeg ((si h_107 93 ((24 * nI c) + i3_107).toNatClampNeg (h_107.1 93 (((24 * nI c) + i3_107) + nI n0').toNatClampNeg)).1 94 (((24 * nI c) + i3_107) + nI n0').toNatClampNeg)))))))))) 0 h1 := by
    intro h1 e1 eb eq e92 ef
    refine lpc2 fun Y hY => ?_
    have key : ∀ m n (h2 : HP), n + m = qn - n0' → h2.2 = h.2 → MB h2.1 c (st, sp + n0', UU sp e q) → (∀ i, i < n → h2.1 93 (24 * c + i) = nI (q (i + n0')).1 ∧ h2.1 94 (24 * c + i) = nI (q (i + n0')).2) → (∀ i, n ≤ i → i < qn → h2.1 93 (24 * c + i) = nI (q i).1 ∧ h2.1 94 (24 * c + i) = nI (q i).2) → h2.1 92 c = nI (qn - n0') → Fr (sGvM c) h.1 h2.1 → Y (nI n) h2 := by
      intro m
      induction m with
      | zero =>
        intro n h2 hn g1 gb g2 g3 g92 gf
        have : n = qn - n0' := by omega
        refine hY _ _ ⟨hic, fun _ => hQ h2 g1 gb ⟨by omega, g92, fun i hi => g2 i (by omega)⟩ gf, fun hz => absurd ?_ hz⟩
        rw [g92, n_ule (by omega) (by omega)]; omega
      | succ m ih =>
        intro n h2 hn g1 gb g2 g3 g92 gf
        have hi1 : vp_in (nI (24 * c + n)) 96 := n_in (by omega) (by omega)
        have hi2 : vp_in (nI (24 * c + n + n0')) 96 := n_in (by omega) (by omega)
        obtain ⟨w1, w2⟩ := g3 (n + n0') (by omega) (by omega)
        refine hY _ _ ⟨hic, fun hz => ?_, fun _ => ?_⟩
        · rw [g92, n_ule (by omega) (by omega)] at hz; omega
        · rw [n24, nI_add, nI_add, n_cl (by omega), n_cl (by omega), nI_1, show 24 * c + n + n0' = 24 * c + (n + n0') by omega, w1, si_o (show (94 : Nat) ≠ 93 by decide), w2]
          rw [show 24 * c + n + n0' = 24 * c + (n + n0') by omega] at hi2
          refine ⟨hi2, hi1, hi2, hi1, ih (n + 1) _ (by omega) g1 ?_ (fun i hi => ?_) (fun i hi hi2 => ?_) ?_ ?_⟩
          · exact gb.fr ((si_o (by decide) _).trans (si_o (by decide) _)) ((si_o (by decide) _).trans (si_o (by decide) _)) fun a s h1 h2 => (si_o (by omega) _).trans (si_o (by omega) _)
          · by_cases hin : i = n
            · subst hin
              exact ⟨by rw [si_o (by decide), si_s], si_s ..⟩
            · rw [si_p (by omega), si_p (by omega), si_p (by omega), si_p (by omega)]
              exact g2 i (by omega)
          · rw [si_p (by omega), si_p (by omega), si_p (by omega), si_p (by omega)]
            exact g3 i (by omega) hi2
          · rw [si_o (by decide), si_o (by decide)]; exact g92
          · exact gf.tr ((Fr.si (Or.inr (Or.inl ⟨by omega, by omega, by omega⟩))).tr (Fr.si (Or.inr (Or.inl ⟨by omega, by omega, by omega⟩))))
    have k0 := key (qn - n0') 0 h1 (by omega) e1 eb (fun i hi => absurd hi (by omega)) (fun i _ hi => eq i hi) e92 ef
    exact k0
  have key : ∀ m n (h1 : HP), n + m = n0' → h1.2 = h.2 → MB h1.1 c (st, sp + n, UU sp e q) → MQu h1.1 c qn q → Fr (sGvM c) h.1 h1.1 → X (nI n) h1 := by
    intro m
    induction m with
    | zero =>
      intro n h1 hn e1 eb eq ef
      have : n = n0' := by omega
      subst this
      refine hX _ _ ⟨fun _ => ⟨hic, hic, ?_⟩, fun hz => absurd ?_ hz⟩
      · rw [eq.2.1, n_sub hg]
        refine loop2 _ e1 ?_ (fun i hi => ?_) (si_s ..) (ef.tr (Fr.si (Or.inl ⟨by omega, rfl⟩)))
        · exact eb.fr (si_o (by decide) _) (si_o (by decide) _) fun a s h1 h2 => si_o (by omega) _
        · rw [si_o (by decide), si_o (by decide)]; exact eq.2.2 i hi
      · rw [n_ule (by omega) (by omega)]; exact Nat.le_refl _
    | succ m ih =>
      intro n h1 hn e1 eb eq ef
      obtain ⟨w1, w2⟩ := eq.2.2 n (by omega)
      have e87 : h1.1 87 c = nI ((st + (sp + n)) % 64) := eb.2.2.2.1
      have hi1 : vp_in (nI (24 * c + n)) 96 := n_in (by omega) (by omega)
      have hi2 : vp_in (nI (64 * c + (st + (sp + n)) % 64)) 256 := n_in (by omega) (by omega)
      refine hX _ _ ⟨fun hz => ?_, fun _ => ?_⟩
      · rw [n_ule (by omega) (by omega)] at hz; omega
      · rw [n24, nI_add, e87, n64, nI_add, n_cl (by omega), n_cl (by omega), w1, si_o (show (94 : Nat) ≠ 95 by decide), w2]
        rw [si_o (show (87 : Nat) ≠ 98 by decide), si_o (show (87 : Nat) ≠ 97 by decide), si_o (show (87 : Nat) ≠ 96 by decide), si_o (show (87 : Nat) ≠ 95 by decide), e87, nI_1, nI_1, n_rem64 (by omega)]
        refine ⟨hic, hi1, hi2, hi1, hi2, hi2, hi2, hic, hic, ih (n + 1) _ (by omega) e1 ⟨hst, show sp + (n + 1) ≤ 12 by omega, ?_, ?_, fun k hk => ?_⟩ ⟨hqn, ?_, fun i hi => ?_⟩ ?_⟩
        · rw [si_o (by decide), si_o (by decide), si_o (by decide), si_o (by decide), si_o (by decide)]; exact eb.2.2.1
        · rw [si_s]
          show nI _ = nI ((st + (sp + (n + 1))) % 64)
          congr 1; omega
        · have hk' : k < sp + (n + 1) := hk
          show ME _ (64 * c + (st + k) % 64) (UU sp e q k)
          by_cases hks : k = sp + n
          · subst hks
            rw [UU_hi (by omega), show sp + n - sp = n by omega]
            refine ⟨?_, ?_, ?_, ?_⟩
            · rw [si_o (by decide), si_o (by decide), si_o (by decide), si_o (by decide), si_s]
            · rw [si_o (by decide), si_o (by decide), si_o (by decide), si_s]
            · rw [si_o (by decide), si_o (by decide), si_s]; rfl
            · rw [si_o (by decide), si_s]; rfl
          · refine ME.fr (eb.2.2.2.2 k (by show k < sp + n; omega)) fun a h1 h2 => ?_
            have hne : 64 * c + (st + k) % 64 ≠ 64 * c + (st + (sp + n)) % 64 := by omega
            rw [si_o (by omega)]
            rw [si_p hne, si_p hne, si_p hne, si_p hne]
        · rw [si_o (by decide), si_o (by decide), si_o (by decide), si_o (by decide), si_o (by decide)]; exact eq.2.1
        · rw [si_o (by decide), si_o (by decide), si_o (by decide), si_o (by decide), si_o (by decide), si_o (by decide), si_o (by decide), si_o (by decide), si_o (by decide), si_o (by decide)]; exact eq.2.2 i hi
        · have z : ∀ a, 95 ≤ a → a ≤ 98 → sGvM c a (64 * c + (st + (sp + n)) % 64) := fun a h1 h2 => Or.inr (Or.inr ⟨h1, h2, by omega, by omega⟩)
          exact ef.tr ((Fr.si (z _ (by omega) (by omega))).tr ((Fr.si (z _ (by omega) (by omega))).tr ((Fr.si (z _ (by omega) (by omega))).tr ((Fr.si (z _ (by omega) (by omega))).tr (Fr.si (Or.inl ⟨by omega, rfl⟩))))))
  have k0 := key n0' 0 h (by omega) rfl (hb.cg fun k hk => UU_lo hk) hq Fr.rf
  exact k0
