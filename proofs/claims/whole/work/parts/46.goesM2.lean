/-! Near end: a bundle goes, the reference's loop. -/
def MFm (g : Nat → Nat → Int32) (i c n : Nat) (G : GF) : Prop := g 111 (8 * i + 7) = nI n ∧ ∀ j, j < n → g 112 (32 * i + 4 * j) = nI (G j).1 ∧ g 112 (32 * i + 4 * j + 1) = nI (G j).2.1 ∧ g 112 (32 * i + 4 * j + 2) = nI (G j).2.2 ∧ g 112 (32 * i + 4 * j + 3) = nI (ckN c (G j).1 (G j).2.1 (G j).2.2)
def sLpM (c k a b : Nat) : Prop := (a = 112 ∧ 32 * k ≤ b ∧ b < 32 * k + 32) ∨ (a = 97 ∧ 64 * c ≤ b ∧ b < 64 * c + 64) ∨ (a = 111 ∧ b = 8 * k + 7)
def sGoM (c k a b : Nat) : Prop := sGvM c a b ∨ sSnd k a b ∨ (a = 112 ∧ 32 * k ≤ b ∧ b < 32 * k + 32) ∨ (a = 80 ∧ b = 2) ∨ ((a = 88 ∨ a = 90) ∧ b = c)
theorem m_goLoop {c k tr st sp K m : Nat} {U : Nat → NU} {h : HP} {Q : Int32 → HP → Prop} {M : Int32} (hM : M = nI m) (hc : c < 4) (hk : k < 16) (hsp : K ≤ sp) (hb : MB h.1 c (st, sp, U)) (hok : ∀ j, j < K → EOk tr (U j)) (ht : tr ≤ 4) (hG : MFm h.1 k c 0 (fx st U 0)) (hKm : cu U K = m) (hKl : ∀ j, j < K → cu U j < m) (hm8 : m ≤ 8) (hQ : ∀ h' : HP, h'.2 = h.2 → MB h'.1 c (st, sp, ew K U) → MFm h'.1 k c m (fx st U K) → Fr (sLpM c k) h.1 h'.1 → P_X9_sendBundle_j210 78 (nI c) M h' Q) : Lp2 (fun X_27 (i4_27 : Int32) (h_27 : HP) => (vp_in (nI c) 4) ∧ ((vp_in (nI c) 4) ∧ (P_X9_ahead (h_27.1 86 c) (h_27.1 87 c) h_27 (fun (v_41 : Int32) (h_41 : HP) => ((v_41 ≤ i4_27) → (P_X9_sendBundle_j210 78 (nI c) M h_41 Q)) ∧ ((¬ v_41 ≤ i4_27) → ((vp_in ((nI (8 * k)) + 7) 128) ∧ (((M ≤ (h_41.1 111 ((nI (8 * k)) + 7).toNatClampNeg)) → (P_X9_sendBundle_j210 78 (nI c) M h_41 Q)) ∧ ((¬ M ≤ (h_41.1 111 ((nI (8 * k)) + 7).toNatClampNeg)) → ((vp_in (nI c) 4) ∧ ((vp_in ((64 * (nI c)) + (((h_41.1 86 c) + i4_27) - ((h_41.1 86 c) + i4_27) / 64 * 64)) 256) ∧ (((¬ (h_41.1 98 ((64 * (nI c)) + (((h_41.1 86 c) + i4_27) - ((h_41.1 86 c) + i4_27) / 64 * 64)).toNatClampNeg) = 0) → (X_27 (i4_27 + 1) h_41)) ∧ (((h_41.1 98 ((64 * (nI c)) + (((h_41.1 86 c) + i4_27) - ((h_41.1 86 c) + i4_27) / 64 * 64)).toNatClampNeg) = 0) → ((vp_in ((nI (8 * k)) + 7) 128) ∧ ((vp_in ((4 * (nI (8 * k))) + (4 * (h_41.1 111 ((nI (8 * k)) + 7).toNatClampNeg))) 512) ∧ ((vp_in ((64 * (nI c)) + (((h_41.1 86 c) + i4_27) - ((h_41.1 86 c) + i4_27) / 64 * 64)) 256) ∧ ((vp_in (((4 * (nI (8 * k))) + (4 * (h_41.1 111 ((nI (8 * k)) + 7).toNatClampNeg))) + 1) 512) ∧ ((vp_in ((64 * (nI c)) + (((h_41.1 86 c) + i4_27) - ((h_41.1 86 c) + i4_27) / 64 * 64)) 256) ∧ ((vp_in (((4 * (nI (8 * k))) + (4 * (h_41.1 111 ((nI (8 * k)) + 7).toNatClampNeg))) + 2) 512) ∧ ((vp_in ((64 * (nI c)) + (((h_41.1 86 c) + i4_27) - ((h_41.1 86 c) + i4_27) / 64 * 64)) 256) ∧ ((vp_in ((64 * (nI c)) + (((h_41.1 86 c) + i4_27) - ((h_41.1 86 c) + i4_27) / 64 * 64)) 256) ∧ (P_X9_checkOf (nI c) (((h_41.1 86 c) + i4_27) - ((h_41.1 86 c) + i4_27) / 64 * 64) ((si (si (si h_41 112 ((4 * (nI (8 * k))) + (4 * (h_41.1 111 ((nI (8 * k)) + 7).toNatClampNeg))).toNatClampNeg (((h_41.1 86 c) + i4_27) - ((h_41.1 86 c) + i4_27) / 64 * 64)) 112 (((4 * (nI (8 * k))) + (4 * (h_41.1 111 ((nI (8 * k)) + 7).toNatClampNeg))) + 1).toNatClampNeg ((si h_41 112 ((4 * (nI (8 * k))) + (4 * (h_41.1 111 ((nI (8 * k)) + 7).toNatClampNeg))).toNatClampNeg (((h_41.1 86 c) + i4_27) - ((h_41.1 86 c) + i4_27) / 64 * 64)).1 95 ((64 * (nI c)) + (((h_41.1 86 c) + i4_27) - ((h_41.1 86 c) + i4_27) / 64 * 64)).toNatClampNeg)) 112 (((4 * (nI (8 * k))) + (4 * (h_41.1 111 ((nI (8 * k)) + 7).toNatClampNeg))) + 2).toNatClampNeg ((si (si h_41 112 ((4 * (nI (8 * k))) + (4 * (h_41.1 111 ((nI (8 * k)) + 7).toNatClampNeg))).toNatClampNeg (((h_41.1 86 c) + i4_27) - ((h_41.1 86 c) + i4_27) / 64 * 64)) 112 (((4 * (nI (8 * k))) + (4 * (h_41.1 111 ((nI (8 * k)) + 7).toNatClampNeg))) + 1).toNatClampNeg ((si h_41 112 ((4 * (nI (8 * k))) + (4 * (h_41.1 111 ((nI (8 * k)) + 7).toNatClampNeg))).toNatClampNeg (((h_41.1 86 c) + i4_27) - ((h_41.1 86 c) + i4_27) / 64 * 64)).1 95 ((64 * (nI c)) + (((h_41.1 86 c) + i4_27) - ((h_41.1 86 c) + i4_27) / 64 * 64)).toNatClampNeg)).1 96 ((64 * (nI c)) + (((h_41.1 86 c) + i4_27) - ((h_41.1 86 c) + i4_27) / 64 * 64)).toNatClampNeg)).1 95 ((64 * (nI c)) + (((h_41.1 86 c) + i4_27) - ((h_41.1 86 c) + i4_27) / 64 * 64)).toNatClampNeg) ((si (si (si h_41 112 ((4 * (nI (8 * k))) + (4 * (h_41.1 111 ((nI (8 * k)) + 7).toNatClampNeg))).toNatClampNeg (((h_41.1 86 c) + i4_27) - ((h_41.1 86 c) + i4_27) / 64 * 64)) 112 (((4 * (nI (8 * k))) + (4 * (h_41.1 111 ((nI (8 * k)) + 7).toNatClampNeg))) + 1).toNatClampNeg ((si h_41 112 ((4 * (nI (8 * k))) + (4 * (h_41.1 111 ((nI (8 * k)) + 7).toNatClampNeg))).toNatClampNeg (((h_41.1 86 c) + i4_27) - ((h_41.1 86 c) + i4_27) / 64 * 64)).1 95 ((64 * (nI c)) + (((h_41.1 86 c) + i4_27) - ((h_41.1 86 c) + i4_27) / 64 * 64)).toNatClampNeg)) 112 (((4 * (nI (8 * k))) + (4 * (h_41.1 111 ((nI (8 * k)) + 7).toNatClampNeg))) + 2).toNatClampNeg ((si (si h_41 112 ((4 * (nI (8 * k))) + (4 * (h_41.1 111 ((nI (8 * k)) + 7).toNatClampNeg))).toNatClampNeg (((h_41.1 86 c) + i4_27) - ((h_41.1 86 c) + i4_27) / 64 * 64)) 112 (((4 * (nI (8 * k))) + (4 * (h_41.1 111 ((nI (8 * k)) + 7).toNatClampNeg))) + 1).toNatClampNeg ((si h_41 112 ((4 * (nI (8 * k))) + (4 * (h_41.1 111 ((nI (8 * k)) + 7).toNatClampNeg))).toNatClampNeg (((h_41.1 86 c) + i4_27) - ((h_41.1 86 c) + i4_27) / 64 * 64)).1 95 ((64 * (nI c)) + (((h_41.1 86 c) + i4_27) - ((h_41.1 86 c) + i4_27) / 64 * 64)).toNatClampNeg)).1 96 ((64 * (nI c)) + (((h_41.1 86 c) + i4_27) - ((h_41.1 86 c) + i4_27) / 64 * 64)).toNatClampNeg)).1 96 ((64 * (nI c)) + (((h_41.1 86 c) + i4_27) - ((h_41.1 86 c) + i4_27) / 64 * 64)).toNatClampNeg) (si (si (si h_41 112 ((4 * (nI (8 * k))) + (4 * (h_41.1 111 ((nI (8 * k)) + 7).toNatClampNeg))).toNatClampNeg (((h_41.1 86 c) + i4_27) - ((h_41.1 86 c) + i4_27) / 64 * 64)) 112 (((4 * (nI (8 * k))) + (4 * (h_41.1 111 ((nI (8 * k)) + 7).toNatClampNeg))) + 1).toNatClampNeg ((si h_41 112 ((4 * (nI (8 * k))) + (4 * (h_41.1 111 ((nI (8 * k)) + 7).toNatClampNeg))).toNatClampNeg (((h_41.1 86 c) + i4_27) - ((h_41.1 86 c) + i4_27) / 64 * 64)).1 95 ((64 * (nI c)) + (((h_41.1 86 c) + i4_27) - ((h_41.1 86 c) + i4_27) / 64 * 64)).toNatClampNeg)) 112 (((4 * (nI (8 * k))) + (4 * (h_41.1 111 ((nI (8 * k)) + 7).toNatClampNeg))) + 2).toNatClampNeg ((si (si h_41 112 ((4 * (nI (8 * k))) + (4 * (h_41.1 111 ((nI (8 * k)) + 7).toNatClampNeg))).toNatClampNeg (((h_41.1 86 c) + i4_27) - ((h_41.1 86 c) + i4_27) / 64 * 64)) 112 (((4 * (nI (8 * k))) + (4 * (h_41.1 111 ((nI (8 * k)) + 7).toNatClampNeg))) + 1).toNatClampNeg ((si h_41 112 ((4 * (nI (8 * k))) + (4 * (h_41.1 111 ((nI (8 * k)) + 7).toNatClampNeg))).toNatClampNeg (((h_41.1 86 c) + i4_27) - ((h_41.1 86 c) + i4_27) / 64 * 64)).1 95 ((64 * (nI c)) + (((h_41.1 86 c) + i4_27) - ((h_41.1 86 c) + i4_27) / 64 * 64)).toNatClampNeg)).1 96 ((64 * (nI c)) + (((h_41.1 86 c) + i4_27) - ((h_41.1 86 c) + i4_27) / 64 * 64)).toNatClampNeg)) (fun (v_176 : Int32) (h_176 : HP) => (vp_in (((4 * (nI (8 * k))) + (4 * (h_41.1 111 ((nI (8 * k)) + 7).toNatClampNeg))) + 3) 512) ∧ ((vp_in ((64 * (nI c)) + (((h_41.1 86 c) + i4_27) - ((h_41.1 86 c) + i4_27) / 64 * 64)) 256) ∧ ((vp_in ((64 * (nI c)) + (((h_41.1 86 c) + i4_27) - ((h_41.1 86 c) + i4_27) / 64 * 64)) 256) ∧ ((vp_in ((nI (8 * k)) + 7) 128) ∧ ((vp_in ((nI (8 * k)) + 7) 128) ∧ (X_27 (i4_27 + 1) (si (si (si h_176 112 (((4 * (nI (8 * k))) + (4 * (h_41.1 111 ((nI (8 * k)) + 7).toNatClampNeg))) + 3).toNatClampNeg v_176) 97 ((64 * (nI c)) + (((h_41.1 86 c) + i4_27) - ((h_41.1 86 c) + i4_27) / 64 * 64)).toNatClampNeg (((si h_176 112 (((4 * (nI (8 * k))) + (4 * (h_41.1 111 ((nI (8 * k)) + 7).toNatClampNeg))) + 3).toNatClampNeg v_176).1 97 ((64 * (nI c)) + (((h_41.1 86 c) + i4_27) - ((h_41.1 86 c) + i4_27) / 64 * 64)).toNatClampNeg) + 1)) 111 ((nI (8 * k)) + 7).toNatClampNeg (((si (si h_176 112 (((4 * (nI (8 * k))) + (4 * (h_41.1 111 ((nI (8 * k)) + 7).toNatClampNeg))) + 3).toNatClampNeg v_176) 97 ((64 * (nI c)) + (((h_41.1 86 c) + i4_27) - ((h_41.1 86 c) + i4_27) / 64 * 64)).toNatClampNeg (((si h_176 112 (((4 * (nI (8 * k))) + (4 * (h_41.1 111 ((nI (8 * k)) + 7).toNatClampNeg))) + 3).toNatClampNeg v_176).1 97 ((64 * (nI c)) + (((h_41.1 86 c) + i4_27) - ((h_41.1 86 c) + i4_27) / 64 * 64)).toNatClampNeg) + 1)).1 111 ((nI (8 * k)) + 7).toNatClampNeg) + 1))))))))))))))))))))))))))))) 0 h := by
  subst hM
  have hic : vp_in (nI c) 4 := n_in hc (by omega)
  have hst : st < 64 := hb.1
  have hsp2 : sp ≤ 12 := hb.2.1
  have hi7 : vp_in (nI (8 * k + 7)) 128 := n_in (by omega) (by omega)
  have a7 : nI (8 * k) + 7 = nI (8 * k + 7) := n_addl (B := 7) (8 * k) 7 rfl
  rw [a7, n_cl (by omega)]
  refine lpc2 fun X hX => ?_
  have key : ∀ d n (h1 : HP), n + d = K → h1.2 = h.2 → MB h1.1 c (st, sp, ew n U) → MFm h1.1 k c (cu U n) (fx st U n) → Fr (sLpM c k) h.1 h1.1 → X (nI n) h1 := by
    intro d
    induction d with
    | zero =>
      intro n h1 hn e1 eb em ef
      have : n = K := by omega
      subst this
      have fin := hQ h1 e1 eb (by rw [← hKm]; exact em) ef
      refine hX _ _ ⟨hic, hic, m_spread eb ⟨fun _ => fin, fun _ => ⟨hi7, fun _ => fin, fun hz => absurd ?_ hz⟩⟩⟩
      rw [em.1, n_ule (by omega) (by omega), hKm]; exact Nat.le_refl _
    | succ d ih =>
      intro n h1 hn e1 eb em ef
      have hcu := hKl n (by omega)
      obtain ⟨k1, k2, k3, k4⟩ := hok n (by omega)
      have ce : ME h1.1 (64 * c + (st + n) % 64) (ew n U n) := eb.2.2.2.2 n (by show n < sp; omega)
      rw [ew_lo (Nat.le_refl _)] at ce
      have hin : vp_in (nI (64 * c + (st + n) % 64)) 256 := n_in (by omega) (by omega)
      refine hX _ _ ⟨hic, hic, m_spread eb ⟨fun hz => ?_, fun _ => ⟨hi7, fun hz => ?_, fun _ => ⟨hic, ?_⟩⟩⟩⟩
      · rw [n_ule (by omega) (by omega)] at hz; omega
      · rw [em.1, n_ule (by omega) (by omega)] at hz; omega
      · rw [show h1.1 86 c = nI st from eb.2.2.1, n_at hc (by omega), n_cl (by omega), ce.2.2.2, n0, n_ueq (by omega) (by omega), nI_1]
        refine ⟨hin, fun hd => ?_, fun hd => ⟨hi7, ?_⟩⟩
        · refine ih (n + 1) h1 (by omega) e1 (by rw [ew_s0 hd]; exact eb) ?_ ef
          show MFm h1.1 k c (cu U n + _) (if _ then _ else _)
          rw [if_neg hd, if_neg hd]; exact em
        · have b0 : (4 * nI (8 * k)) + (4 * nI (cu U n)) = nI (32 * k + 4 * cu U n) := by
            rw [n4, n4, nI_add]; congr 1; omega
          rw [em.1, b0, n_addl (B := 1) (32 * k + 4 * cu U n) 1 rfl, n_addl (B := 2) (32 * k + 4 * cu U n) 2 rfl, n_addl (B := 3) (32 * k + 4 * cu U n) 3 rfl, n_cl (by omega), n_cl (by omega), n_cl (by omega), n_cl (by omega), nI_add, n_rem64 (by omega)]
          have i0 : vp_in (nI (32 * k + 4 * cu U n)) 512 := n_in (by omega) (by omega)
          have i1 : vp_in (nI (32 * k + 4 * cu U n + 1)) 512 := n_in (by omega) (by omega)
          have i2 : vp_in (nI (32 * k + 4 * cu U n + 2)) 512 := n_in (by omega) (by omega)
          have i3 : vp_in (nI (32 * k + 4 * cu U n + 3)) 512 := n_in (by omega) (by omega)
          simp only [si_o (show (95 : Nat) ≠ 112 by decide), si_o (show (96 : Nat) ≠ 112 by decide)]
          rw [ce.1, ce.2.1]
          refine ⟨i0, hin, i1, hin, i2, hin, hin, p_checkM (by omega) (by omega) (by omega) (by omega) ⟨i3, hin, hin, hi7, hi7, ?_⟩⟩
          simp only [si_o (show (97 : Nat) ≠ 112 by decide), si_o (show (111 : Nat) ≠ 97 by decide), si_o (show (111 : Nat) ≠ 112 by decide)]
          rw [ce.2.2.1, nI_1, em.1, nI_1]
          let H := si (si (si (si h1 112 (32 * k + 4 * cu U n) (nI ((st + n) % 64))) 112 (32 * k + 4 * cu U n + 1) (nI (U n).1)) 112 (32 * k + 4 * cu U n + 2) (nI (U n).2.1)) 112 (32 * k + 4 * cu U n + 3) (nI (ckN c ((st + n) % 64) (U n).1 (U n).2.1))
          have HF : ∀ a b, a ≠ 112 → H.1 a b = h1.1 a b := fun a b z => by
            show (si (si (si (si h1 _ _ _) _ _ _) _ _ _) _ _ _).1 a b = _
            rw [si_o z, si_o z, si_o z, si_o z]
          have HM : ∀ x, x < 32 * k + 4 * cu U n → H.1 112 x = h1.1 112 x := fun x z => by
            show (si (si (si (si h1 _ _ _) _ _ _) _ _ _) _ _ _).1 112 x = _
            rw [si_p (by omega), si_p (by omega), si_p (by omega), si_p (by omega)]
          show X (nI (n + 1)) (si (si H 97 (64 * c + (st + n) % 64) (nI ((U n).2.2.1 + 1))) 111 (8 * k + 7) (nI (cu U n + 1)))
          refine ih (n + 1) _ (by omega) e1 ?_ ?_ ?_
          · rw [ew_s1 hd]
            refine MB.fr (f := (si H 97 (64 * c + (st + n) % 64) (nI ((U n).2.2.1 + 1))).1) (MB.up (eb.fr (HF _ _ (by decide)) (HF _ _ (by decide)) fun a s h1 h2 => HF _ _ (by omega)) (show n < sp by omega) rfl 97 (by omega) ?_) (si_o (by decide) _) (si_o (by decide) _) fun a s h1 h2 => si_o (by omega) _
            exact ⟨by rw [si_o (by decide), HF _ _ (by decide)]; exact ce.1, by rw [si_o (by decide), HF _ _ (by decide)]; exact ce.2.1, by rw [si_s], by rw [si_o (by decide), HF _ _ (by decide), ce.2.2.2, hd]⟩
          · show MFm _ k c (cu U n + _) (if _ then _ else _)
            rw [if_pos hd, if_pos hd]
            refine ⟨si_s .., fun j hj => ?_⟩
            have zz : ∀ x, (si (si H 97 (64 * c + (st + n) % 64) (nI ((U n).2.2.1 + 1))) 111 (8 * k + 7) (nI (cu U n + 1))).1 112 x = H.1 112 x := fun x => (si_o (by decide) _).trans (si_o (by decide) _)
            rw [zz, zz, zz, zz]
            by_cases hjn : j = cu U n
            · subst hjn
              rw [upG_s]
              refine ⟨?_, ?_, ?_, ?_⟩
              · show (si (si (si (si h1 _ _ _) _ _ _) _ _ _) _ _ _).1 112 _ = _
                rw [si_p (by omega), si_p (by omega), si_p (by omega), si_s]
              · show (si (si (si (si h1 _ _ _) _ _ _) _ _ _) _ _ _).1 112 _ = _
                rw [si_p (by omega), si_p (by omega), si_s]
              · show (si (si (si (si h1 _ _ _) _ _ _) _ _ _) _ _ _).1 112 _ = _
                rw [si_p (by omega), si_s]
              · show (si (si (si (si h1 _ _ _) _ _ _) _ _ _) _ _ _).1 112 _ = _
                rw [si_s]
            · rw [upG_o hjn, HM _ (by omega), HM _ (by omega), HM _ (by omega), HM _ (by omega)]
              exact em.2 j (by omega)
          · have z : ∀ x, 32 * k ≤ x → x < 32 * k + 32 → sLpM c k 112 x := fun x h1 h2 => Or.inl ⟨rfl, h1, h2⟩
            exact ef.tr ((Fr.si (z _ (by omega) (by omega))).tr ((Fr.si (z _ (by omega) (by omega))).tr ((Fr.si (z _ (by omega) (by omega))).tr ((Fr.si (z _ (by omega) (by omega))).tr ((Fr.si (Or.inr (Or.inl ⟨rfl, by omega, by omega⟩))).tr (Fr.si (Or.inr (Or.inr ⟨rfl, rfl⟩))))))))
  have k0 := key K 0 h (by omega) rfl (by rw [ew_0]; exact hb) hG Fr.rf
  exact k0
theorem MB.fr2 {f f' : Nat → Nat → Int32} {c : Nat} {b : NB} (h : MB f c b) (hf : ∀ a s, 86 ≤ a → a ≤ 98 → f' a s = f a s) : MB f' c b := h.fr (hf _ _ (by omega) (by omega)) (hf _ _ (by omega) (by omega)) fun a s h1 h2 => hf _ _ (by omega) (by omega)
theorem m_sendBundle {c k tr st sp qn K m : Nat} {e : Nat → NU} {q : Nat → Nat × Nat} {h : HP} {Q : Int32 → HP → Prop} (hc : c < 4) (hk : k < 16) (h42 : h.1 78 42 = nI m) (h44 : h.1 78 44 = nI (K - sp)) (h39 : h.1 78 39 = nI k) (hb : MB h.1 c (st, sp, e)) (hq : MQu h.1 c qn q) (hok : ∀ k, k < sp → EOk tr (e k)) (qok : QOk qn q) (ht : tr ≤ 4) (hKw : K ≤ 12) (hKT : K ≤ sp + qn) (hKm : cu (UU sp e q) K = m) (hKl : ∀ k, k < K → cu (UU sp e q) k < m) (hm8 : m ≤ 8) (hQ : ∀ h' : HP, h'.2 = h.2 → MB h'.1 c (st, max sp K, ew K (UU sp e q)) → MQu h'.1 c (qn - (K - sp)) (fun i => q (i + (K - sp))) → RowM h'.1 k 2 (nI c) (-1) (-1) (-1) 0 0 (nI m) → MFm h'.1 k c m (fx st (UU sp e q) K) → h'.1 78 39 = nI (k + 1) → h'.1 80 0 = h.1 80 0 + 1 → h'.1 80 2 = h.1 80 2 + nI m → h'.1 88 c = 1 → h'.1 90 c = 0 → Fr (sGoM c k) h.1 h'.1 → Q (nI m) h') : P_X9_sendBundle (nI c) h Q := by
  have hic : vp_in (nI c) 4 := n_in hc (by omega)
  have hsp : sp ≤ 12 := hb.2.1
  unfold P_X9_sendBundle
  rw [n_cl (by omega), h44]
  refine m_give hc hb hq (by omega) (by omega) fun h1 g1 gb gq gf => ?_
  rw [show sp + (K - sp) = max sp K by omega] at gb
  have o1 : ∀ a b, (a < 87 ∨ 98 < a) → h1.1 a b = h.1 a b := fun a b z => gf a b (by rintro (⟨y, -⟩ | ⟨y, -⟩ | ⟨y, y2, -⟩) <;> omega)
  refine m_send hk ((o1 _ _ (by omega)).trans h39) fun h2 l1 lr l39 l80 lf => ?_
  have o2 : ∀ a b, a ≠ 111 → a ≠ 78 → a ≠ 80 → h2.1 a b = h1.1 a b := fun a b z1 z2 z3 => lf a b (by rintro (⟨y, -⟩ | ⟨y, -⟩ | ⟨y, -⟩) <;> omega)
  refine m_goLoop (k := k) (sp := max sp K) (K := K) (tr := tr) (U := UU sp e q) (m := m) h42 hc hk (by omega) (gb.fr2 fun a s h1 h2 => o2 _ _ (by omega) (by omega) (by omega)) (fun j hj => UU_ok hok qok (by omega)) ht ⟨lr.2.2.2.2.2.2.2, fun j hj => absurd hj (by omega)⟩ hKm hKl hm8 fun h3 p1 pb pm pf => ?_
  have o3 : ∀ a b, a ≠ 111 → a ≠ 112 → a ≠ 97 → h3.1 a b = h2.1 a b := fun a b z1 z2 z3 => pf a b (by rintro (⟨y, -⟩ | ⟨y, -⟩ | ⟨y, -⟩) <;> omega)
  have o4 : ∀ x, x ≠ 8 * k + 7 → h3.1 111 x = h2.1 111 x := fun x z => pf _ _ (by rintro (⟨y, -⟩ | ⟨y, -⟩ | ⟨-, y⟩) <;> omega)
  unfold P_X9_sendBundle_j210
  rw [n_cl (by omega), h42]
  refine ⟨hic, hic, hQ _ (p1.trans (l1.trans g1)) ?_ ?_ ?_ ?_ ?_ ?_ ?_ ?_ ?_ ?_⟩
  · exact pb.fr ((si_o (by decide) _).trans ((si_o (by decide) _).trans (si_o (by decide) _))) ((si_o (by decide) _).trans ((si_o (by decide) _).trans (si_o (by decide) _))) fun a s h1 h2 => (si_o (by omega) _).trans ((si_o (by omega) _).trans (si_o (by omega) _))
  · have z : ∀ a b, 92 ≤ a → a ≤ 94 → (si (si (si h3 80 2 (h3.1 80 2 + nI m)) 88 c 1) 90 c 0).1 a b = h1.1 a b := fun a b z1 z2 => by
      rw [si_o (by omega), si_o (by omega), si_o (by omega), o3 _ _ (by omega) (by omega) (by omega), o2 _ _ (by omega) (by omega) (by omega)]
    exact ⟨gq.1, (z _ _ (by omega) (by omega)).trans gq.2.1, fun i hi => ⟨(z _ _ (by omega) (by omega)).trans (gq.2.2 i hi).1, (z _ _ (by omega) (by omega)).trans (gq.2.2 i hi).2⟩⟩
  · obtain ⟨r0, r1, r2, r3, r4, r5, r6, r7⟩ := lr
    have z : ∀ x, (si (si (si h3 80 2 (h3.1 80 2 + nI m)) 88 c 1) 90 c 0).1 111 x = h3.1 111 x := fun x => by
      rw [si_o (by decide), si_o (by decide), si_o (by decide)]
    exact ⟨(z _).trans ((o4 _ (by omega)).trans r0), (z _).trans ((o4 _ (by omega)).trans r1), (z _).trans ((o4 _ (by omega)).trans r2), (z _).trans ((o4 _ (by omega)).trans r3), (z _).trans ((o4 _ (by omega)).trans r4), (z _).trans ((o4 _ (by omega)).trans r5), (z _).trans ((o4 _ (by omega)).trans r6), (z _).trans pm.1⟩
  · have z : ∀ a x, 110 < a → (si (si (si h3 80 2 (h3.1 80 2 + nI m)) 88 c 1) 90 c 0).1 a x = h3.1 a x := fun a x ha => by
      rw [si_o (by omega), si_o (by omega), si_o (by omega)]
    exact ⟨(z _ _ (by decide)).trans pm.1, fun j hj => ⟨(z _ _ (by decide)).trans (pm.2 j hj).1, (z _ _ (by decide)).trans (pm.2 j hj).2.1, (z _ _ (by decide)).trans (pm.2 j hj).2.2.1, (z _ _ (by decide)).trans (pm.2 j hj).2.2.2⟩⟩
  · rw [si_o (by decide), si_o (by decide), si_o (by decide), o3 _ _ (by decide) (by decide) (by decide)]; exact l39
  · rw [si_o (by decide), si_o (by decide), si_p (by decide), o3 _ _ (by decide) (by decide) (by decide), l80, o1 _ _ (by omega)]
  · rw [si_o (by decide), si_o (by decide), si_s, o3 _ _ (by decide) (by decide) (by decide), lf _ _ (by rintro (⟨y, -⟩ | ⟨y, -⟩ | ⟨-, y⟩) <;> omega), o1 _ _ (by omega)]
  · rw [si_o (by decide), si_s]
  · rw [si_s]
  · refine Fr.tr (gf.mono fun a b z => Or.inl z) (Fr.tr (lf.mono fun a b z => Or.inr (Or.inl z)) (Fr.tr (pf.mono fun a b z => ?_) ((Fr.si (Or.inr (Or.inr (Or.inr (Or.inl ⟨rfl, rfl⟩))))).tr ((Fr.si (Or.inr (Or.inr (Or.inr (Or.inr ⟨by omega, rfl⟩))))).tr (Fr.si (Or.inr (Or.inr (Or.inr (Or.inr ⟨by omega, rfl⟩)))))))))
    rcases z with z | ⟨z1, z2, z3⟩ | ⟨z1, z2⟩
    · exact Or.inr (Or.inr (Or.inl z))
    · exact Or.inl (Or.inr (Or.inr ⟨by omega, by omega, z2, z3⟩))
    · exact Or.inr (Or.inl (Or.inl ⟨z1, by omega, by omega⟩))
