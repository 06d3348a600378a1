/-! The reference's far end, call by call. -/
def MFar (g : Nat → Nat → Int32) (c : Nat) (y : FYS) : Prop := g 99 c = 1 ∧ g 100 c = nI y.1.1 ∧ g 101 c = nI y.1.2.1 ∧ g 102 c = nI y.1.2.2.1 ∧ g 104 c = nI y.1.2.2.2.1 ∧ g 105 c = nI y.1.2.2.2.2 ∧ g 107 c = y.2.1 ∧ g 80 5 = y.2.2.1 ∧ MM g c y.2.2.2
def sFarM (c a b : Nat) : Prop := (99 ≤ a ∧ a ≤ 107 ∧ b = c) ∨ (a = 108 ∧ 64 * c ≤ b ∧ b < 64 * c + 64) ∨ (a = 109 ∧ b = c) ∨ (a = 110 ∧ 10 * c ≤ b ∧ b < 10 * c + 10) ∨ (a = 80 ∧ (b = 4 ∨ b = 5))
theorem sMvM_far {c a b : Nat} (h : sMvM c a b) : sFarM c a b := by
  rcases h with ⟨h1, h2⟩ | h | h | h | ⟨h1, h2⟩
  · exact Or.inl ⟨by omega, by omega, h2⟩
  · exact Or.inr (Or.inl h)
  · exact Or.inr (Or.inr (Or.inl h))
  · exact Or.inr (Or.inr (Or.inr (Or.inl h)))
  · exact Or.inr (Or.inr (Or.inr (Or.inr ⟨h1, Or.inl h2⟩)))
theorem MM.fr {f f' : Nat → Nat → Int32} {c : Nat} {x : FMS} (h : MM f c x) (h1 : f' 103 c = f 103 c) (h2 : f' 106 c = f 106 c) (h3 : ∀ b, f' 108 b = f 108 b) (h4 : f' 109 c = f 109 c) (h5 : ∀ i, f' 110 i = f 110 i) (h6 : f' 80 4 = f 80 4) : MM f' c x := ⟨h.1, by rw [h1]; exact h.2.1, by rw [h2]; exact h.2.2.1, fun k hk => by rw [h3]; exact h.2.2.2.1 k hk, h.2.2.2.2.fr h4 h5 h6⟩
theorem MFar.mv {f f' : Nat → Nat → Int32} {c : Nat} {y : FYS} {x : FMS} (h : MFar f c y) (hfr : Fr (sMvM c) f f') (hx : MM f' c x) : MFar f' c (y.1, y.2.1, y.2.2.1, x) := by
  have k : ∀ a, a ≠ 103 → a ≠ 106 → a ≠ 108 → a ≠ 109 → a ≠ 110 → a ≠ 80 → f' a c = f a c := fun a h1 h2 h3 h4 h5 h6 => hfr _ _ (by rintro (⟨z | z, -⟩ | ⟨z, -⟩ | ⟨z, -⟩ | ⟨z, -⟩ | ⟨z, -⟩) <;> omega)
  have k4 : f' 80 5 = f 80 5 := hfr _ _ (by rintro (⟨z | z, -⟩ | ⟨z, -⟩ | ⟨z, -⟩ | ⟨z, -⟩ | ⟨-, z⟩) <;> omega)
  obtain ⟨h1, h2, h3, h4, h5, h6, h7, h8, -⟩ := h
  exact ⟨by rw [k _ (by decide) (by decide) (by decide) (by decide) (by decide) (by decide)]; exact h1, by rw [k _ (by decide) (by decide) (by decide) (by decide) (by decide) (by decide)]; exact h2, by rw [k _ (by decide) (by decide) (by decide) (by decide) (by decide) (by decide)]; exact h3, by rw [k _ (by decide) (by decide) (by decide) (by decide) (by decide) (by decide)]; exact h4, by rw [k _ (by decide) (by decide) (by decide) (by decide) (by decide) (by decide)]; exact h5, by rw [k _ (by decide) (by decide) (by decide) (by decide) (by decide) (by decide)]; exact h6, by rw [k _ (by decide) (by decide) (by decide) (by decide) (by decide) (by decide)]; exact h7, by rw [k4]; exact h8, hx⟩
theorem m_doubles {c : Nat} {y : FYS} {h : HP} {Q : HP → Prop} (hc : c < 4) (hy : MFar h.1 c y) (hQ : ∀ h' : HP, h'.2 = h.2 → MFar h'.1 c (y.1, y.2.1 + 1, y.2.2.1 + 1, y.2.2.2) → Fr (sFarM c) h.1 h'.1 → Q h') : P_X9_doubles (nI c) h Q := by
  obtain ⟨h1, h2, h3, h4, h5, h6, h7, h8, h9⟩ := hy
  have hic : vp_in (nI c) 4 := n_in hc (by omega)
  unfold P_X9_doubles
  rw [n_cl (by omega)]
  refine ⟨hic, hic, hQ _ rfl ⟨?_, ?_, ?_, ?_, ?_, ?_, ?_, ?_, ?_⟩ ((Fr.si (Or.inl ⟨by omega, by omega, rfl⟩)).tr (Fr.si (Or.inr (Or.inr (Or.inr (Or.inr ⟨rfl, Or.inr rfl⟩))))))⟩
  · rw [si_o (by decide), si_o (by decide)]; exact h1
  · rw [si_o (by decide), si_o (by decide)]; exact h2
  · rw [si_o (by decide), si_o (by decide)]; exact h3
  · rw [si_o (by decide), si_o (by decide)]; exact h4
  · rw [si_o (by decide), si_o (by decide)]; exact h5
  · rw [si_o (by decide), si_o (by decide)]; exact h6
  · rw [si_o (by decide), si_s, h7]
  · rw [si_s, si_o (by decide), h8]
  · exact h9.fr (by rw [si_o (by decide), si_o (by decide)]) (by rw [si_o (by decide), si_o (by decide)]) (fun b => by rw [si_o (by decide), si_o (by decide)]) (by rw [si_o (by decide), si_o (by decide)]) (fun i => by rw [si_o (by decide), si_o (by decide)]) (by rw [si_p (by decide), si_o (by decide)])
theorem MM.up {h : HP} {c e v : Nat} {x : FMS} {z : Int32} (hx : MM h.1 c x) (he : e < 64) (hz : z = enc v) : MM (si h 108 (64 * c + (x.1 + e) % 64) z).1 c (x.1, x.2.1, upK x.2.2.1 e v, x.2.2.2) := by
  obtain ⟨h1, h2, h3, h4, h5⟩ := hx
  refine ⟨h1, by rw [si_o (by decide)]; exact h2, by rw [si_o (by decide)]; exact h3, fun k hk => ?_, h5.fr (by rw [si_o (by decide)]) (fun i => by rw [si_o (by decide)]) (by rw [si_o (by decide)])⟩
  rw [si_1]
  show _ = enc (if k = e then v else x.2.2.1 k)
  by_cases hke : k = e
  · rw [if_pos ⟨rfl, by rw [hke]⟩, if_pos hke, hz]
  · rw [if_neg (by intro z; have : 64 * c + (x.1 + k) % 64 = 64 * c + (x.1 + e) % 64 := z.2; omega), if_neg hke]
    exact h4 k hk
theorem m_marksTo {c w s : Nat} {y : FYS} {h : HP} {Q : HP → Prop} (hc : c < 4) (hy : MFar h.1 c y) (hw : y.1.2.1 ≤ 12) (hmk : y.1.2.2.2.1 < 64) (hbi : y.1.2.2.2.2 < 2 ^ y.1.2.1) (hs : s < 64) (hQ : ∀ h' : HP, h'.2 = h.2 → MFar h'.1 c ((y.1.1, y.1.2.1, y.1.2.2.1, mkA s y.1.2.2.2), y.2) → Fr (sFarM c) h.1 h'.1 → Q h') : P_X9_marksTo (nI c) (nI ((y.1.2.2.2.1 + s) % 64)) h Q := by
  obtain ⟨h1, h2, h3, h4, h5, h6, h7, h8, h9⟩ := hy
  have hic : vp_in (nI c) 4 := n_in hc (by omega)
  have hp := pw12 hw
  unfold P_X9_marksTo
  rw [n_cl (by omega), h5, p_aheadM hmk (by omega), h6]
  have hby : ((y.1.2.2.2.1 + s) % 64 + 64 - y.1.2.2.2.1) % 64 = s := by omega
  rw [hby]
  have fin : ∀ bi' : Nat, bi' = (mkA s y.1.2.2.2).2 → Q (si (si h 105 c (nI bi')) 104 c (nI ((y.1.2.2.2.1 + s) % 64))) := by
    intro bi' hb
    have hm1 := mkA_fst (s := s) (m := y.1.2.2.2) hmk
    refine hQ _ rfl ⟨?_, ?_, ?_, ?_, ?_, ?_, ?_, ?_, ?_⟩ ((Fr.si (Or.inl ⟨by omega, by omega, rfl⟩)).tr (Fr.si (Or.inl ⟨by omega, by omega, rfl⟩)))
    · rw [si_o (by decide), si_o (by decide)]; exact h1
    · rw [si_o (by decide), si_o (by decide)]; exact h2
    · rw [si_o (by decide), si_o (by decide)]; exact h3
    · rw [si_o (by decide), si_o (by decide)]; exact h4
    · rw [si_s]
      show _ = nI (mkA s y.1.2.2.2).1
      rw [hm1]
    · rw [si_o (by decide), si_s, hb]
    · rw [si_o (by decide), si_o (by decide)]; exact h7
    · rw [si_o (by decide), si_o (by decide)]; exact h8
    · exact h9.fr (by rw [si_o (by decide), si_o (by decide)]) (by rw [si_o (by decide), si_o (by decide)]) (fun b => by rw [si_o (by decide), si_o (by decide)]) (by rw [si_o (by decide), si_o (by decide)]) (fun i => by rw [si_o (by decide), si_o (by decide)]) (by rw [si_o (by decide), si_o (by decide)])
  refine ⟨hic, fun hz => ?_, fun hz => ?_⟩
  · rw [show (16 : Int32) = nI 16 from rfl, n_ule (by omega) (by omega)] at hz
    rw [n_shr (by omega) (by omega)]
    refine ⟨hic, hic, hic, fin _ ?_⟩
    unfold mkA
    split
    · rename_i e
      rw [e, Nat.pow_zero, Nat.div_one]
    · rfl
  · rw [show (16 : Int32) = nI 16 from rfl, n_ule (by omega) (by omega)] at hz
    refine ⟨hic, hic, fin 0 ?_⟩
    unfold mkA
    rw [if_neg (by omega)]
    exact (Nat.div_eq_of_lt (Nat.lt_of_lt_of_le hbi (Nat.pow_le_pow_right (by omega) (by omega)))).symm
theorem m_marks {c nb : Nat} {y : FYS} {h : HP} {Q : HP → Prop} (hc : c < 4) (hy : MFar h.1 c y) (ok : YOk y) (hn : nb < 64) (hQ : ∀ h' : HP, h'.2 = h.2 → MFar h'.1 c ((y.1.1, y.1.2.1, y.1.2.2.1, mark1 y.1.2.1 nb y.1.2.2.2), y.2) → Fr (sFarM c) h.1 h'.1 → Q h') : P_X9_marks (nI c) (nI nb) h Q := by
  obtain ⟨o1, ⟨o2, o2'⟩, o3, o4, o5, o6, o7, o8, o9⟩ := ok
  have hic : vp_in (nI c) 4 := n_in hc (by omega)
  unfold P_X9_marks
  rw [n_cl (by omega), hy.2.2.2.2.1, p_behindM o4 (by omega)]
  refine ⟨hic, ?_⟩
  by_cases hb : (nb + 64 - y.1.2.2.2.1) % 64 < 32
  · rw [if_pos hb]
    refine ⟨fun _ => ⟨hic, ?_⟩, fun hz => absurd rfl hz⟩
    rw [hy.2.2.2.2.1, p_aheadM o4 (by omega)]
    refine ⟨hic, ?_⟩
    rw [hy.2.2.1, n_ult (by omega) (by omega)]
    have hin := mark_in (m := y.1.2.2.2) o2 hn o4 hb
    have hm1 : mark1 y.1.2.1 nb y.1.2.2.2 = ((mkA ((nb + 64 - y.1.2.2.2.1) % 64 - (y.1.2.1 - 1)) y.1.2.2.2).1, (mkA ((nb + 64 - y.1.2.2.2.1) % 64 - (y.1.2.1 - 1)) y.1.2.2.2).2 ||| 2 ^ ((nb + 64 - (mkA ((nb + 64 - y.1.2.2.2.1) % 64 - (y.1.2.1 - 1)) y.1.2.2.2).1) % 64)) := if_pos hb
    have fin : ∀ h1 : HP, h1.2 = h.2 → MFar h1.1 c ((y.1.1, y.1.2.1, y.1.2.2.1, mkA ((nb + 64 - y.1.2.2.2.1) % 64 - (y.1.2.1 - 1)) y.1.2.2.2), y.2) → Fr (sFarM c) h.1 h1.1 → P_X9_marks_j48 78 (nI c) (nI nb) h1 Q := by
      intro h1 e1 eY eF
      have e4 : h1.1 104 c = nI (mkA ((nb + 64 - y.1.2.2.2.1) % 64 - (y.1.2.1 - 1)) y.1.2.2.2).1 := eY.2.2.2.2.1
      have e5 : h1.1 105 c = nI (mkA ((nb + 64 - y.1.2.2.2.1) % 64 - (y.1.2.1 - 1)) y.1.2.2.2).2 := eY.2.2.2.2.2.1
      unfold P_X9_marks_j48
      rw [n_cl (by omega), e4, p_aheadM (mkA_lt o4) (by omega), e5, n_shl1 (by omega), n_or]
      refine ⟨hic, hic, hic, hQ _ e1 ?_ (eF.tr (Fr.si (Or.inl ⟨by omega, by omega, rfl⟩)))⟩
      rw [hm1]
      obtain ⟨h1, h2, h3, h4, h5, h6, h7, h8, h9⟩ := eY
      refine ⟨?_, ?_, ?_, ?_, ?_, ?_, ?_, ?_, ?_⟩
      · rw [si_o (by decide)]; exact h1
      · rw [si_o (by decide)]; exact h2
      · rw [si_o (by decide)]; exact h3
      · rw [si_o (by decide)]; exact h4
      · rw [si_o (by decide)]; exact h5
      · rw [si_s]
      · rw [si_o (by decide)]; exact h7
      · rw [si_o (by decide)]; exact h8
      · exact h9.fr (by rw [si_o (by decide)]) (by rw [si_o (by decide)]) (fun b => by rw [si_o (by decide)]) (by rw [si_o (by decide)]) (fun i => by rw [si_o (by decide)]) (by rw [si_o (by decide)])
    refine ⟨fun hz => ?_, fun hz => ⟨hic, ?_⟩⟩
    · refine fin h rfl ?_ Fr.rf
      rw [show (nb + 64 - y.1.2.2.2.1) % 64 - (y.1.2.1 - 1) = 0 by omega]
      exact hy
    · rw [p_lastOf hn (by omega), show (nb + 65 - y.1.2.1) % 64 = (y.1.2.2.2.1 + ((nb + 64 - y.1.2.2.2.1) % 64 - (y.1.2.1 - 1))) % 64 by omega]
      exact m_marksTo (w := y.1.2.1) hc hy o2' o4 o5 (by omega) fin
  · rw [if_neg hb]
    refine ⟨fun hz => absurd hz (by decide), fun _ => hQ h rfl ?_ Fr.rf⟩
    have hm1 : mark1 y.1.2.1 nb y.1.2.2.2 = y.1.2.2.2 := if_neg hb
    rw [hm1]
    exact hy
theorem m_comes {c nb v : Nat} {y : FYS} {h : HP} {Q : HP → Prop} (hc : c < 4) (hy : MFar h.1 c y) (ok : YOk y) (hn : nb < 64) (hv : v ≤ 1500) (hQ : ∀ h' : HP, h'.2 = h.2 → MFar h'.1 c (comesA nb v y) → Fr (sFarM c) h.1 h'.1 → Q h') : P_X9_comesNumber (nI c) (nI nb) (nI v) h Q := by
  have ok' := ok
  obtain ⟨o1, ⟨o2, o2'⟩, o3, o4, o5, o6, o7, o8, o9⟩ := ok'
  have hic : vp_in (nI c) 4 := n_in hc (by omega)
  refine m_marks hc hy ok hn fun h0 e0 eY0 eF0 => ?_
  have e3 : h0.1 103 c = nI y.2.2.2.1 := eY0.2.2.2.2.2.2.2.2.2.1
  rw [n_cl (by omega), e3, p_behindM o6 (by omega)]
  refine ⟨hic, ?_⟩
  by_cases hb : (nb + 64 - y.2.2.2.1) % 64 < 32
  · rw [if_pos hb]
    refine ⟨fun _ => ⟨hic, ?_⟩, fun hz => absurd rfl hz⟩
    have e1 : h0.1 101 c = nI y.1.2.1 := eY0.2.2.1
    rw [e3, p_aheadM o6 (by omega), e1, n_ult (by omega) (by omega)]
    refine ⟨hic, ?_⟩
    have hfD : fromD y.1.2.1 nb y.2.2.2 = dbl1 nb (mv1 y.1.2.1 nb y.2.2.2) := if_pos hb
    have hf1 : from1 y.1.1 y.1.2.1 nb v y.2.2.2 = onA (put1 y.1.1 nb v (mv1 y.1.2.1 nb y.2.2.2)) := if_pos hb
    unfold comesA at hQ
    rw [hfD, hf1] at hQ
    have hin := mv1_in o2 hn o6 hb
    have rest : ∀ h1 : HP, h1.2 = h0.2 → MM h1.1 c (mv1 y.1.2.1 nb y.2.2.2) → Fr (sMvM c) h0.1 h1.1 → P_X9_comesNumber_j59 78 (nI c) (nI nb) (nI v) h1 Q := by
      intro h1 e1 eM eF
      have hy1 := eY0.mv eF eM
      generalize hx1 : mv1 y.1.2.1 nb y.2.2.2 = x1 at eM hin hQ hy1
      have hx64 := eM.1
      have hKx : KOk y.1.2.1 x1.2.2.1 := by rw [← hx1]; exact mvA_ok o8
      have hsl : nb = (x1.1 + (nb + 64 - x1.1) % 64) % 64 := by omega
      generalize hee : (nb + 64 - x1.1) % 64 = e at hin hsl
      have hKe := hKx.2 e
      have hin64 : vp_in (nI (64 * c + nb)) 256 := n_in (by omega) (by omega)
      have hat : h1.1 108 (64 * c + nb) = enc (x1.2.2.1 e) := by
        have := eM.2.2.2.1 e (by omega)
        rw [← hsl] at this
        exact this
      unfold P_X9_comesNumber_j59
      rw [n64, nI_add, n_cl (by omega), hat, n_cl (by omega)]
      refine ⟨hin64, fun hz => ⟨hic, ?_⟩, fun hz => ?_⟩
      · rw [enc_eq (by omega)] at hz
        have hdb : dbl1 nb x1 = 0 := by unfold dbl1; rw [hee, if_neg (by simpa using hz)]
        rw [hdb] at hQ
        have h3 : h1.1 100 c = nI y.1.1 := hy1.2.1
        rw [h3]
        refine ⟨fun hk => ⟨hin64, ?_⟩, fun hk => ?_⟩
        · have hkd : y.1.1 ≠ 2 := fun z => hk (by rw [z]; rfl)
          have hp1 : put1 y.1.1 nb v x1 = (x1.1, x1.2.1, upK x1.2.2.1 e (v + 1), x1.2.2.2) := by unfold put1; rw [hee, if_neg (by simpa using hz), if_neg hkd]
          rw [hp1] at hQ
          have eM2 := eM.up (v := v + 1) (by omega : e < 64) (z := nI v) (enc_s v).symm
          rw [← hsl] at eM2
          refine m_goesOn (w := y.1.2.1) hc o2' (upK_ok hKx hin (by omega)) eM2 fun h2 g1 gM gF => ?_
          have fr1 : Fr (sMvM c) h0.1 h2.1 := eF.tr ((Fr.si (Or.inr (Or.inl ⟨rfl, by omega, by omega⟩))).tr gF)
          refine hQ h2 (g1.trans (e1.trans e0)) ?_ (eF0.tr (fr1.mono fun _ _ => sMvM_far))
          have := eY0.mv fr1 gM
          rw [Int32.add_zero, Int32.add_zero]
          exact this
        · have hkd : y.1.1 = 2 := by
            have hk' : nI y.1.1 = nI 2 := hk
            rw [n_ueq (by omega) (by omega)] at hk'
            exact hk'
          have hp1 : put1 y.1.1 nb v x1 = (x1.1, x1.2.1, upK x1.2.2.1 e 1, relO (nI v) x1.2.2.2) := by unfold put1; rw [hee, if_neg (by simpa using hz), if_pos hkd]
          rw [hp1] at hQ
          refine m_release hc eM.2.2.2.2 fun h2 g1 gO gF => ⟨hin64, ?_⟩
          have eM2 : MM h2.1 c (x1.1, x1.2.1, x1.2.2.1, relO (nI v) x1.2.2.2) := ⟨eM.1, by rw [gF _ _ (by rintro (⟨z, -⟩ | ⟨z, -⟩ | ⟨z, -⟩) <;> omega)]; exact eM.2.1, by rw [gF _ _ (by rintro (⟨z, -⟩ | ⟨z, -⟩ | ⟨z, -⟩) <;> omega)]; exact eM.2.2.1, fun k hk => by rw [gF _ _ (by rintro (⟨z, -⟩ | ⟨z, -⟩ | ⟨z, -⟩) <;> omega)]; exact eM.2.2.2.1 k hk, gO⟩
          have eM3 := eM2.up (v := 1) (by omega : e < 64) (z := 0) enc_1.symm
          simp only at eM3
          rw [← hsl] at eM3
          have fr0 : Fr (sMvM c) h0.1 h2.1 := eF.tr (gF.mono fun _ _ z => Or.inr (Or.inr z))
          refine m_goesOn (w := y.1.2.1) hc o2' (upK_ok hKx hin (by omega)) eM3 fun h3 g1' gM gF' => ?_
          have fr1 : Fr (sMvM c) h0.1 h3.1 := fr0.tr ((Fr.si (Or.inr (Or.inl ⟨rfl, by omega, by omega⟩))).tr gF')
          refine hQ h3 (g1'.trans (g1.trans (e1.trans e0))) ?_ (eF0.tr (fr1.mono fun _ _ => sMvM_far))
          have := eY0.mv fr1 gM
          rw [Int32.add_zero, Int32.add_zero]
          exact this
      · rw [enc_eq (by omega)] at hz
        have hdb : dbl1 nb x1 = 1 := by unfold dbl1; rw [hee, if_pos hz]
        have hp1 : put1 y.1.1 nb v x1 = x1 := by unfold put1; rw [hee, if_pos hz]
        rw [hdb, hp1] at hQ
        refine m_doubles hc hy1 fun h2 g1 gY gF => ?_
        refine m_goesOn (w := y.1.2.1) hc o2' hKx gY.2.2.2.2.2.2.2.2 fun h3 g1' gM gF' => ?_
        exact hQ h3 (g1'.trans (g1.trans (e1.trans e0))) (gY.mv gF' gM) (eF0.tr ((eF.mono fun _ _ => sMvM_far).tr (gF.tr (gF'.mono fun _ _ => sMvM_far))))
    refine ⟨fun hz => ?_, fun hz => ⟨hic, ?_⟩⟩
    · have hmv : mv1 y.1.2.1 nb y.2.2.2 = y.2.2.2 := by unfold mv1; rw [show (nb + 64 - y.2.2.2.1) % 64 - (y.1.2.1 - 1) = 0 by omega]; rfl
      exact rest h0 rfl (by rw [hmv]; exact eY0.2.2.2.2.2.2.2.2) Fr.rf
    · rw [p_lastOf hn (by omega), show (nb + 65 - y.1.2.1) % 64 = (y.2.2.2.1 + ((nb + 64 - y.2.2.2.1) % 64 - (y.1.2.1 - 1))) % 64 by omega]
      exact m_movesTo (w := y.1.2.1) hc o2' o8 eY0.2.2.2.2.2.2.2.2 (by omega) rest
  · rw [if_neg hb]
    refine ⟨fun hz => absurd hz (by decide), fun _ => ?_⟩
    have hfD : fromD y.1.2.1 nb y.2.2.2 = 1 := if_neg hb
    have hf1 : from1 y.1.1 y.1.2.1 nb v y.2.2.2 = y.2.2.2 := if_neg hb
    unfold comesA at hQ
    rw [hfD, hf1] at hQ
    exact m_doubles hc eY0 fun h2 g1 gY gF => hQ h2 (g1.trans e0) gY (eF0.tr gF)
