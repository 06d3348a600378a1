/-! The class's far end, call by call. -/
theorem sh_31 : ∀ n, n < 32 → ((nI n &&& 31).toBitVec.smod 32).toNat = n := by decide +kernel
theorem n_shr {n s : Nat} (hn : n < 2 ^ 31) (hs : s < 32) : nI n >>> (nI s &&& 31) = nI (n / 2 ^ s) := pk_shrN hn _ s (sh_31 s hs)
theorem n_shl1 {s : Nat} (hs : s < 31) : (1 : Int32) <<< (nI s &&& 31) = nI (2 ^ s) := by
  have h := pk_shlN (n := 1) (nI s &&& 31) s (sh_31 s (by omega)) (by rw [Nat.one_mul]; exact Nat.pow_lt_pow_right (by omega) (by omega))
  rw [Nat.one_mul] at h
  exact h
theorem n_or (a b : Nat) : nI a ||| nI b = nI (a ||| b) := by
  apply Int32.toBitVec_inj.1
  show BitVec.ofNat 32 a ||| BitVec.ofNat 32 b = BitVec.ofNat 32 (a ||| b)
  apply BitVec.eq_of_getLsbD_eq
  intro i hi
  simp [hi]
theorem n_subw {a w : Nat} (hw : 1 ≤ w) (h : w - 1 ≤ a) : nI a - (nI w - 1) = nI (a - (w - 1)) := by rw [n_m1 (by omega), n_sub h]
theorem n_subw0 {a w : Nat} (hw : 1 ≤ w) (hw2 : w < 2 ^ 30) (h : a < w - 1) : nI a - (nI w - 1) < 0 := by rw [n_m1 (by omega)]; exact pk_sneg (by omega) h
theorem lt_le0 {x : Int32} (h : x < 0) : x ≤ 0 := by
  rw [Int32.le_iff_toInt_le]
  rw [Int32.lt_iff_toInt_lt] at h
  omega
theorem lt_nlt {x : Int32} (h : x < 0) : ¬ 0 < x := by
  rw [Int32.lt_iff_toInt_lt]
  rw [Int32.lt_iff_toInt_lt] at h
  omega
theorem pw12 {w : Nat} (h : w ≤ 12) : 2 ^ w ≤ 4096 := Nat.pow_le_pow_right (n := 2) (by omega) h
theorem k_moveMark {F w s mk bi : Nat} {h : HP} {Q : HP → Prop} (hw : w ≤ 12) (h4 : h.1 F 4 = nI w) (h7 : h.1 F 7 = nI mk) (h8 : h.1 F 8 = nI bi) (hmk : mk < 64) (hbi : bi < 2 ^ w) (hs : s < 64) (hQ : Q (if s = 0 then h else si (si h F 7 (nI (mkA s (mk, bi)).1)) F 8 (nI (mkA s (mk, bi)).2))) : P_X1_moveMark F (nI s) h Q := by
  have hp := pw12 hw
  refine ⟨fun hc => ?_, fun hc => ?_⟩
  · rw [n0, n_ule (by omega) (by omega)] at hc
    rw [if_pos (by omega)] at hQ
    exact hQ
  · rw [n0, n_ule (by omega) (by omega)] at hc
    rw [if_neg (by omega)] at hQ
    have e : mkA s (mk, bi) = ((mk + s) % 64, bi / 2 ^ s) := if_neg (by omega)
    rw [e] at hQ
    rw [h7, nI_add, p_round (by omega), si_p (by decide), si_p (by decide), h4, h8]
    refine ⟨fun hc2 => ?_, fun hc2 => ?_⟩
    · rw [n_ule (by omega) (by omega)] at hc2
      have : bi / 2 ^ s = 0 := Nat.div_eq_of_lt (Nat.lt_of_lt_of_le hbi (Nat.pow_le_pow_right (by omega) hc2))
      rw [this] at hQ
      exact hQ
    · rw [n_ule (by omega) (by omega)] at hc2
      rw [n_shr (by omega) (by omega)]
      exact hQ
theorem k_moveMarkN {F : Nat} {i : Int32} {h : HP} {Q : HP → Prop} (hi : i ≤ 0) (hQ : Q h) : P_X1_moveMark F i h Q := ⟨fun _ => hQ, fun hc => absurd hi hc⟩
theorem k_isDoubled {F : Nat} {y : FYS} {h : HP} {Q : HP → Prop} (hF : 40 < F) (hy : CFar h.1 F y) (hQ : ∀ h' : HP, h'.2 = h.2 → CFar h'.1 F (y.1, y.2.1 + 1, y.2.2.1 + 1, y.2.2.2) → Fr (sFar F) h.1 h'.1 → Q h') : P_X1_isDoubled F h Q := by
  obtain ⟨h1, h2, h3, h4, h5, h6, h7, h8, h9⟩ := hy
  refine hQ _ rfl ⟨?_, ?_, ?_, ?_, ?_, ?_, ?_, ?_, ?_⟩ ((Fr.si (Or.inl ⟨rfl, by omega, by omega⟩)).tr (Fr.si (Or.inr (Or.inr (Or.inr (Or.inr ⟨rfl, Or.inr rfl⟩))))))
  · rw [si_o (by omega), si_p (by decide)]; exact h1
  · rw [si_o (by omega), si_p (by decide)]; exact h2
  · rw [si_o (by omega), si_p (by decide)]; exact h3
  · rw [si_o (by omega), si_p (by decide)]; exact h4
  · rw [si_o (by omega), si_p (by decide)]; exact h5
  · rw [si_o (by omega), si_p (by decide)]; exact h6
  · rw [si_o (by omega), si_s, h7]
  · rw [si_s, si_o (by omega), h8]
  · exact h9.fr (by rw [si_o (by omega), si_p (by decide)]) (by rw [si_o (by omega), si_p (by decide)]) (fun b => by rw [si_o (by omega), si_o (by omega)]) (by rw [si_o (by omega), si_o (by omega)]) (fun i => by rw [si_o (by omega), si_o (by omega)]) (by rw [si_p (by decide), si_o (by omega)])
/-- a cell of what is kept is set -/
theorem CM.up {h : HP} {F e v : Nat} {x : FMS} {z : Int32} (hF : 40 < F) (hx : CM h.1 F x) (he : e < 16) (hz : z = enc v) : CM (si h (F + 3) ((x.1 + e) % 16) z).1 F (x.1, x.2.1, upK x.2.2.1 e v, x.2.2.2) := by
  obtain ⟨h1, h2, h3, h4, h5⟩ := hx
  refine ⟨h1, by rw [si_o (by omega)]; exact h2, by rw [si_o (by omega)]; exact h3, fun k hk => ?_, h5.fr (by rw [si_o (by omega)]) (fun i => by rw [si_o (by omega)]) (by rw [si_o (by omega)])⟩
  rw [si_1]
  show _ = enc (if k = e then v else x.2.2.1 k)
  by_cases hke : k = e
  · rw [if_pos ⟨rfl, by rw [hke]⟩, if_pos hke, hz]
  · rw [if_neg (by intro z; have : (x.1 + k) % 16 = (x.1 + e) % 16 := z.2; omega), if_neg hke]
    exact h4 k hk
theorem k_comes_j57 {F nb v : Nat} {y : FYS} {h : HP} {Q : HP → Prop} (hF : 40 < F) (hy : CFar h.1 F y) (ok : YOk y) (hn : nb < 64) (hv : v ≤ 1500) (hQ : ∀ h' : HP, h'.2 = h.2 → CFar h'.1 F (y.1, y.2.1 + fromD y.1.2.1 nb y.2.2.2, y.2.2.1 + fromD y.1.2.1 nb y.2.2.2, from1 y.1.1 y.1.2.1 nb v y.2.2.2) → Fr (sFar F) h.1 h'.1 → Q h') : P_X1_comes_j57 F (nI nb) (nI v) h Q := by
  obtain ⟨o1, ⟨o2, o2'⟩, o3, o4, o5, o6, o7, o8, o9⟩ := ok
  have h6 := hy.2.2.2.2.2.2.2.2.2.1
  unfold P_X1_comes_j57
  rw [h6, p_behind o6 (by omega)]
  by_cases hb : (nb + 64 - y.2.2.2.1) % 64 < 32
  · rw [if_pos hb]
    refine ⟨fun _ => ?_, fun hz => absurd rfl hz⟩
    rw [h6, p_ahead o6 (by omega), hy.2.2.1]
    have hfD : fromD y.1.2.1 nb y.2.2.2 = dbl1 nb (mv1 y.1.2.1 nb y.2.2.2) := if_pos hb
    have hf1 : from1 y.1.1 y.1.2.1 nb v y.2.2.2 = onA (put1 y.1.1 nb v (mv1 y.1.2.1 nb y.2.2.2)) := if_pos hb
    rw [hfD, hf1] at hQ
    have hin := mv1_in o2 hn o6 hb
    have rest : ∀ h1 : HP, h1.2 = h.2 → CM h1.1 F (mv1 y.1.2.1 nb y.2.2.2) → Fr (sMv F) h.1 h1.1 → P_X8_slot (nI nb) h1 (fun (v_97 : Int32) (h_97 : HP) => (vp_in v_97 16) ∧ ((((h_97.1 (F + 3) v_97.toNatClampNeg) = (-1)) → (((¬ (h_97.1 F 3) = 2) → (P_X8_slot (nI nb) h_97 (fun (v_143 : Int32) (h_143 : HP) => (vp_in v_143 16) ∧ (P_X1_moveOn F (si h_143 (F + 3) v_143.toNatClampNeg (nI v)) (fun (h_149 : HP) => Q h_149))))) ∧ (((h_97.1 F 3) = 2) → (P_X1_release F (nI v) h_97 (fun (h_122 : HP) => P_X8_slot (nI nb) h_122 (fun (v_130 : Int32) (h_130 : HP) => (vp_in v_130 16) ∧ (P_X1_moveOn F (si h_130 (F + 3) v_130.toNatClampNeg 0) (fun (h_149 : HP) => Q h_149)))))))) ∧ ((¬ (h_97.1 (F + 3) v_97.toNatClampNeg) = (-1)) → (P_X1_isDoubled F h_97 (fun (h_106 : HP) => P_X1_moveOn F h_106 (fun (h_149 : HP) => Q h_149)))))) := by
      intro h1 e1 eM eF
      generalize hx1 : mv1 y.1.2.1 nb y.2.2.2 = x1 at eM hin hQ
      have hx64 := eM.1
      have hKx : KOk y.1.2.1 x1.2.2.1 := by rw [← hx1]; exact mvA_ok o8
      have hy1 := hy.mv hF eF eM
      have hsl : nb % 16 = (x1.1 + (nb + 64 - x1.1) % 64) % 16 := by omega
      generalize hee : (nb + 64 - x1.1) % 64 = e at hin hsl
      have hKe := hKx.2 e
      have hin16 : vp_in (nI (nb % 16)) 16 := n_in (by omega) (by omega)
      rw [p_slot (by omega), n_cl (by omega), hsl, eM.2.2.2.1 e (by omega)]
      refine ⟨by rw [← hsl]; exact hin16, fun hc => ?_, fun hc => ?_⟩
      · rw [enc_eq (by omega)] at hc
        have hdb : dbl1 nb x1 = 0 := by unfold dbl1; rw [hee, if_neg (by simpa using hc)]
        rw [hdb] at hQ
        have h3 : h1.1 F 3 = nI y.1.1 := hy1.2.1
        rw [h3]
        refine ⟨fun hk => ?_, fun hk => ?_⟩
        · have hkd : y.1.1 ≠ 2 := fun z => hk (by rw [z]; rfl)
          have hp1 : put1 y.1.1 nb v x1 = (x1.1, x1.2.1, upK x1.2.2.1 e (v + 1), x1.2.2.2) := by unfold put1; rw [hee, if_neg (by simpa using hc), if_neg hkd]
          rw [hp1] at hQ
          rw [p_slot (by omega), n_cl (by omega), hsl]
          refine ⟨by rw [← hsl]; exact hin16, ?_⟩
          have eM2 := eM.up (v := v + 1) hF (by omega : e < 16) (z := nI v) (enc_s v).symm
          refine k_moveOn (w := y.1.2.1) hF o2' (by rw [si_o (by omega)]; exact hy1.2.2.1) (upK_ok hKx hin (by omega)) eM2 fun h2 g1 gM gF => ?_
          have fr1 : Fr (sMv F) h.1 h2.1 := eF.tr ((Fr.si (Or.inr (Or.inl rfl))).tr gF)
          refine hQ h2 (g1.trans e1) ?_ (fr1.mono fun _ _ => sMv_far)
          have := hy.mv hF fr1 gM
          rw [Int32.add_zero, Int32.add_zero]
          exact this
        · have hkd : y.1.1 = 2 := by
            have hk' : nI y.1.1 = nI 2 := hk
            rw [n_ueq (by omega) (by omega)] at hk'
            exact hk'
          have hp1 : put1 y.1.1 nb v x1 = (x1.1, x1.2.1, upK x1.2.2.1 e 1, relO (nI v) x1.2.2.2) := by unfold put1; rw [hee, if_neg (by simpa using hc), if_pos hkd]
          rw [hp1] at hQ
          refine k_release hF eM.2.2.2.2 fun h2 g1 gO gF => ?_
          have eM2 : CM h2.1 F (x1.1, x1.2.1, x1.2.2.1, relO (nI v) x1.2.2.2) := ⟨eM.1, by rw [gF _ _ (by rintro (⟨z, -⟩ | z | ⟨z, -⟩) <;> omega)]; exact eM.2.1, by rw [gF _ _ (by rintro (⟨z, -⟩ | z | ⟨z, -⟩) <;> omega)]; exact eM.2.2.1, fun k hk => by rw [gF _ _ (by rintro (⟨z, -⟩ | z | ⟨z, -⟩) <;> omega)]; exact eM.2.2.2.1 k hk, gO⟩
          rw [p_slot (by omega), n_cl (by omega), hsl]
          refine ⟨by rw [← hsl]; exact hin16, ?_⟩
          have eM3 := eM2.up (v := 1) hF (by omega : e < 16) (z := 0) enc_1.symm
          have fr0 : Fr (sMv F) h.1 h2.1 := eF.tr (gF.mono fun _ _ z => Or.inr (Or.inr z))
          have hy2 := hy.mv hF fr0 eM2
          refine k_moveOn (w := y.1.2.1) hF o2' (by rw [si_o (by omega)]; exact hy2.2.2.1) (upK_ok hKx hin (by omega)) eM3 fun h3 g1' gM gF' => ?_
          have fr1 : Fr (sMv F) h.1 h3.1 := fr0.tr ((Fr.si (Or.inr (Or.inl rfl))).tr gF')
          refine hQ h3 (g1'.trans (g1.trans e1)) ?_ (fr1.mono fun _ _ => sMv_far)
          have := hy.mv hF fr1 gM
          rw [Int32.add_zero, Int32.add_zero]
          exact this
      · rw [enc_eq (by omega)] at hc
        have hdb : dbl1 nb x1 = 1 := by unfold dbl1; rw [hee, if_pos hc]
        have hp1 : put1 y.1.1 nb v x1 = x1 := by unfold put1; rw [hee, if_pos hc]
        rw [hdb, hp1] at hQ
        refine k_isDoubled hF hy1 fun h2 g1 gY gF => ?_
        refine k_moveOn (w := y.1.2.1) hF o2' gY.2.2.1 hKx gY.2.2.2.2.2.2.2.2 fun h3 g1' gM gF' => ?_
        exact hQ h3 (g1'.trans (g1.trans e1)) (gY.mv hF gF' gM) ((eF.mono fun _ _ => sMv_far).tr (gF.tr (gF'.mono fun _ _ => sMv_far)))
    by_cases hs : y.1.2.1 - 1 ≤ (nb + 64 - y.2.2.2.1) % 64
    · rw [n_subw o2 hs]
      exact k_moveFrom (w := y.1.2.1) hF o2' hy.2.2.1 o8 hy.2.2.2.2.2.2.2.2 (by omega) rest
    · refine k_moveFromN (lt_nlt (n_subw0 o2 (by omega) (by omega))) ?_
      have hmv : mv1 y.1.2.1 nb y.2.2.2 = y.2.2.2 := by unfold mv1; rw [show (nb + 64 - y.2.2.2.1) % 64 - (y.1.2.1 - 1) = 0 by omega]; rfl
      exact rest h rfl (by rw [hmv]; exact hy.2.2.2.2.2.2.2.2) Fr.rf
  · rw [if_neg hb]
    refine ⟨fun hz => absurd hz (by decide), fun _ => ?_⟩
    have hfD : fromD y.1.2.1 nb y.2.2.2 = 1 := if_neg hb
    have hf1 : from1 y.1.1 y.1.2.1 nb v y.2.2.2 = y.2.2.2 := if_neg hb
    rw [hfD, hf1] at hQ
    exact k_isDoubled hF hy hQ
