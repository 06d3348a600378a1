theorem sFar_mark {F a b : Nat} (h : a = F ∧ (b = 7 ∨ b = 8)) : sFar F a b := Or.inl ⟨h.1, by omega, by omega⟩
/-- MARK and its bits are set -/
theorem CFar.mark {h : HP} {F mk bi : Nat} {y : FYS} (hF : 40 < F) (hy : CFar h.1 F y) : CFar (si (si h F 7 (nI mk)) F 8 (nI bi)).1 F ((y.1.1, y.1.2.1, y.1.2.2.1, mk, bi), y.2) := by
  obtain ⟨h1, h2, h3, h4, h5, h6, h7, h8, h9⟩ := hy
  refine ⟨?_, ?_, ?_, ?_, ?_, ?_, ?_, ?_, ?_⟩
  · rw [si_p (by decide), si_p (by decide)]; exact h1
  · rw [si_p (by decide), si_p (by decide)]; exact h2
  · rw [si_p (by decide), si_p (by decide)]; exact h3
  · rw [si_p (by decide), si_p (by decide)]; exact h4
  · rw [si_p (by decide), si_s]
  · rw [si_s]
  · rw [si_p (by decide), si_p (by decide)]; exact h7
  · rw [si_o (by omega), si_o (by omega)]; exact h8
  · exact h9.fr (by rw [si_p (by decide), si_p (by decide)]) (by rw [si_p (by decide), si_p (by decide)]) (fun b => by rw [si_o (by omega), si_o (by omega)]) (by rw [si_o (by omega), si_o (by omega)]) (fun i => by rw [si_o (by omega), si_o (by omega)]) (by rw [si_o (by omega), si_o (by omega)])
theorem CFar.bits {h : HP} {F bi : Nat} {y : FYS} (hF : 40 < F) (hy : CFar h.1 F y) : CFar (si h F 8 (nI bi)).1 F ((y.1.1, y.1.2.1, y.1.2.2.1, y.1.2.2.2.1, bi), y.2) := by
  obtain ⟨h1, h2, h3, h4, h5, h6, h7, h8, h9⟩ := hy
  refine ⟨?_, ?_, ?_, ?_, ?_, ?_, ?_, ?_, ?_⟩
  · rw [si_p (by decide)]; exact h1
  · rw [si_p (by decide)]; exact h2
  · rw [si_p (by decide)]; exact h3
  · rw [si_p (by decide)]; exact h4
  · rw [si_p (by decide)]; exact h5
  · rw [si_s]
  · rw [si_p (by decide)]; exact h7
  · rw [si_o (by omega)]; exact h8
  · exact h9.fr (by rw [si_p (by decide)]) (by rw [si_p (by decide)]) (fun b => by rw [si_o (by omega)]) (by rw [si_o (by omega)]) (fun i => by rw [si_o (by omega)]) (by rw [si_o (by omega)])
theorem CFar_mkA {h : HP} {F s : Nat} {y : FYS} (hF : 40 < F) (hy : CFar h.1 F y) : CFar (if s = 0 then h else si (si h F 7 (nI (mkA s y.1.2.2.2).1)) F 8 (nI (mkA s y.1.2.2.2).2)).1 F ((y.1.1, y.1.2.1, y.1.2.2.1, mkA s y.1.2.2.2), y.2) ∧ Fr (sFar F) h.1 (if s = 0 then h else si (si h F 7 (nI (mkA s y.1.2.2.2).1)) F 8 (nI (mkA s y.1.2.2.2).2)).1 ∧ (if s = 0 then h else si (si h F 7 (nI (mkA s y.1.2.2.2).1)) F 8 (nI (mkA s y.1.2.2.2).2)).2 = h.2 := by
  by_cases hs : s = 0
  · subst hs
    exact ⟨hy, Fr.rf, rfl⟩
  · rw [if_neg hs]
    exact ⟨hy.mark hF, (Fr.si (sFar_mark ⟨rfl, Or.inl rfl⟩)).tr (Fr.si (sFar_mark ⟨rfl, Or.inr rfl⟩)), rfl⟩
theorem k_comes {F nb v : Nat} {y : FYS} {h : HP} {Q : HP → Prop} (hF : 40 < F) (hy : CFar h.1 F y) (ok : YOk y) (hn : nb < 64) (hv : v ≤ 1500) (hQ : ∀ h' : HP, h'.2 = h.2 → CFar h'.1 F (comesA nb v y) → Fr (sFar F) h.1 h'.1 → Q h') : P_X1_comes F (nI nb) (nI v) h Q := by
  have ok' := ok
  obtain ⟨o1, ⟨o2, o2'⟩, o3, o4, o5, o6, o7, o8, o9⟩ := ok'
  refine ⟨fun _ => ?_, fun hz => absurd (hy.1.symm.trans hz) (by decide)⟩
  have h7 := hy.2.2.2.2.1
  rw [h7, p_behind o4 (by omega)]
  have fin : ∀ (h1 : HP) (m : Nat × Nat), h1.2 = h.2 → m = mark1 y.1.2.1 nb y.1.2.2.2 → CFar h1.1 F ((y.1.1, y.1.2.1, y.1.2.2.1, m), y.2) → Fr (sFar F) h.1 h1.1 → P_X1_comes_j57 F (nI nb) (nI v) h1 Q := by
    intro h1 m e1 em eY eF
    have hm := mark1_ok (m := y.1.2.2.2) o2 hn o4 o5
    rw [← em] at hm
    refine k_comes_j57 hF eY ⟨o1, ⟨o2, o2'⟩, o3, hm.1, hm.2, o6, o7, o8, o9⟩ hn hv fun h2 g1 gY gF => hQ h2 (g1.trans e1) ?_ (eF.tr gF)
    rw [em] at gY
    exact gY
  by_cases hb : (nb + 64 - y.1.2.2.2.1) % 64 < 32
  · rw [if_pos hb]
    refine ⟨fun hz => absurd rfl hz, fun _ => ?_⟩
    rw [h7, p_ahead o4 (by omega), hy.2.2.1]
    have hm1 : mark1 y.1.2.1 nb y.1.2.2.2 = ((mkA ((nb + 64 - y.1.2.2.2.1) % 64 - (y.1.2.1 - 1)) y.1.2.2.2).1, (mkA ((nb + 64 - y.1.2.2.2.1) % 64 - (y.1.2.1 - 1)) y.1.2.2.2).2 ||| 2 ^ ((nb + 64 - (mkA ((nb + 64 - y.1.2.2.2.1) % 64 - (y.1.2.1 - 1)) y.1.2.2.2).1) % 64)) := if_pos hb
    have hin := mark_in (m := y.1.2.2.2) o2 hn o4 hb
    have rest : ∀ h1 : HP, h1.2 = h.2 → CFar h1.1 F ((y.1.1, y.1.2.1, y.1.2.2.1, mkA ((nb + 64 - y.1.2.2.2.1) % 64 - (y.1.2.1 - 1)) y.1.2.2.2), y.2) → Fr (sFar F) h.1 h1.1 → P_X8_ahead (h1.1 F 7) (nI nb) h1 (fun (v_49 : Int32) (h_49 : HP) => P_X1_comes_j57 F (nI nb) (nI v) (si h_49 F 8 ((h1.1 F 8) ||| (1 <<< (v_49 &&& 31)))) Q) := by
      intro h1 e1 eY eF
      have e7 : h1.1 F 7 = nI (mkA ((nb + 64 - y.1.2.2.2.1) % 64 - (y.1.2.1 - 1)) y.1.2.2.2).1 := eY.2.2.2.2.1
      have e8 : h1.1 F 8 = nI (mkA ((nb + 64 - y.1.2.2.2.1) % 64 - (y.1.2.1 - 1)) y.1.2.2.2).2 := eY.2.2.2.2.2.1
      rw [e7, p_ahead (mkA_lt o4) (by omega), e8, n_shl1 (by omega), n_or]
      exact fin _ _ e1 hm1.symm (eY.bits hF) (eF.tr (Fr.si (sFar_mark ⟨rfl, Or.inr rfl⟩)))
    by_cases hs : y.1.2.1 - 1 ≤ (nb + 64 - y.1.2.2.2.1) % 64
    · rw [n_subw o2 hs]
      obtain ⟨c1, c2, c3⟩ := CFar_mkA (s := (nb + 64 - y.1.2.2.2.1) % 64 - (y.1.2.1 - 1)) hF hy
      exact k_moveMark (w := y.1.2.1) o2' hy.2.2.1 h7 hy.2.2.2.2.2.1 o4 o5 (by omega) (rest _ c3 c1 c2)
    · refine k_moveMarkN (lt_le0 (n_subw0 o2 (by omega) (by omega))) ?_
      refine rest h rfl ?_ Fr.rf
      rw [show (nb + 64 - y.1.2.2.2.1) % 64 - (y.1.2.1 - 1) = 0 by omega]
      exact hy
  · rw [if_neg hb]
    refine ⟨fun _ => ?_, fun hz => absurd hz (by decide)⟩
    exact fin h _ rfl (if_neg hb).symm hy Fr.rf
theorem k_bar {F nb : Nat} {y : FYS} {h : HP} {Q : HP → Prop} (hF : 40 < F) (hy : CFar h.1 F y) (ok : YOk y) (hn : nb < 64) (hQ : ∀ h' : HP, h'.2 = h.2 → CFar h'.1 F (barA nb y) → Fr (sFar F) h.1 h'.1 → Q h') : P_X1_bar F (nI nb) h Q := by
  obtain ⟨o1, ⟨o2, o2'⟩, o3, o4, o5, o6, o7, o8, o9⟩ := ok
  refine ⟨fun _ => ?_, fun hz => absurd (hy.1.symm.trans hz) (by decide)⟩
  have h7 := hy.2.2.2.2.1
  rw [h7, p_behind o4 (by omega)]
  have fin : ∀ (h1 : HP) (m : Nat × Nat), h1.2 = h.2 → m = (if (nb + 64 - y.1.2.2.2.1) % 64 < 32 then mkA ((nb + 64 - y.1.2.2.2.1) % 64) y.1.2.2.2 else y.1.2.2.2) → CFar h1.1 F ((y.1.1, y.1.2.1, y.1.2.2.1, m), y.2) → Fr (sFar F) h.1 h1.1 → P_X1_bar_j31 F (nI nb) h1 Q := by
    intro h1 m e1 em eY eF
    subst em
    have e6 : h1.1 F 6 = nI y.2.2.2.1 := eY.2.2.2.2.2.2.2.2.2.1
    unfold P_X1_bar_j31
    rw [e6, p_behind o6 (by omega)]
    by_cases hb : (nb + 64 - y.2.2.2.1) % 64 < 32
    · rw [if_pos hb]
      refine ⟨fun hz => absurd rfl hz, fun _ => ?_⟩
      rw [e6, p_ahead o6 (by omega)]
      refine k_moveFrom (w := y.1.2.1) hF o2' eY.2.2.1 o8 eY.2.2.2.2.2.2.2.2 (by omega) fun h2 g1 gM gF => ?_
      have gY := eY.mv hF gF gM
      refine k_moveOn (w := y.1.2.1) hF o2' gY.2.2.1 (mvA_ok o8) gM fun h3 g1' gM' gF' => ?_
      refine hQ h3 (g1'.trans (g1.trans e1)) ?_ (eF.tr ((gF.mono fun _ _ => sMv_far).tr (gF'.mono fun _ _ => sMv_far)))
      have := gY.mv hF gF' gM'
      unfold barA
      rw [if_pos hb]
      exact this
    · rw [if_neg hb]
      refine ⟨fun _ => hQ h1 e1 ?_ eF, fun hz => absurd hz (by decide)⟩
      unfold barA
      rw [if_neg hb]
      exact eY
  by_cases hb : (nb + 64 - y.1.2.2.2.1) % 64 < 32
  · rw [if_pos hb]
    refine ⟨fun hz => absurd rfl hz, fun _ => ?_⟩
    rw [h7, p_ahead o4 (by omega)]
    obtain ⟨c1, c2, c3⟩ := CFar_mkA (s := (nb + 64 - y.1.2.2.2.1) % 64) hF hy
    exact k_moveMark (w := y.1.2.1) o2' hy.2.2.1 h7 hy.2.2.2.2.2.1 o4 o5 (by omega) (fin _ _ c3 (if_pos hb).symm c1 c2)
  · rw [if_neg hb]
    exact ⟨fun _ => fin h _ rfl (if_neg hb).symm hy Fr.rf, fun hz => absurd hz (by decide)⟩
theorem k_holdsAt {F fr : Nat} {K : Nat → Nat} {h : HP} {Q : Int32 → HP → Prop} {p : Nat} (hfr : fr < 64) (h6 : h.1 F 6 = nI fr) (hK : CK h.1 F fr K) (hb : ∀ k, K k ≤ 2000) (hp : p < 16) (hQ : Q (if 2 ≤ K p then 1 else 0) h) : P_X1_holdsAt F (nI p) h Q := by
  refine k_keptAt hfr h6 hK hp ?_
  have := hb p
  rw [enc_le (by omega)]
  by_cases hc : 2 ≤ K p
  · rw [if_pos hc] at hQ
    exact ⟨fun z => absurd z (by omega), fun _ => hQ⟩
  · rw [if_neg hc] at hQ
    exact ⟨fun _ => hQ, fun z => absurd (by omega) z⟩
theorem k_heldCount {F w : Nat} {x : FMS} {h : HP} {Q : Int32 → HP → Prop} (hw : w ≤ 12) (h4 : h.1 F 4 = nI w) (hK : KOk w x.2.2.1) (hx : CM h.1 F x) (hQ : Q (nI (hcN w x.2.2.1)) h) : P_X1_heldCount F h Q := by
  refine lpc3 fun X hX => ?_
  have hb : ∀ n (K : Nat → Nat), hcN n K ≤ n := by
    intro n K
    induction n with
    | zero => exact Nat.le_refl _
    | succ n ih => show hcN n K + _ ≤ _; split <;> omega
  have key : ∀ d n, n + d = w → X (nI (hcN n x.2.2.1)) (nI n) h := by
    intro d
    induction d with
    | zero =>
      intro n hn
      refine hX _ _ _ ⟨fun _ => ?_, fun hc => absurd ?_ hc⟩
      · rw [show n = w by omega]
        exact hQ
      · rw [h4, n_ule (by omega) (by omega)]
        omega
    | succ d ih =>
      intro n hn
      refine hX _ _ _ ⟨fun hc => ?_, fun _ => ?_⟩
      · rw [h4, n_ule (by omega) (by omega)] at hc
        omega
      · refine k_holdsAt hx.1 hx.2.1 hx.2.2.2.1 hK.2 (by omega) ?_
        rw [p_flag, nI_1]
        have := ih (n + 1) (by omega)
        rw [show hcN (n + 1) x.2.2.1 = hcN n x.2.2.1 + (if 2 ≤ x.2.2.1 n then 1 else 0) from rfl] at this
        by_cases hc : 2 ≤ x.2.2.1 n
        · rw [if_pos hc] at this ⊢
          rw [if_neg (by decide), nI_1]
          exact this
        · rw [if_neg hc] at this ⊢
          rw [if_pos rfl, Int32.add_zero]
          exact this
  exact key w 0 (by omega)
theorem k_firstHeld {F w : Nat} {x : FMS} {h : HP} {Q : Int32 → HP → Prop} (hw : w ≤ 12) (h4 : h.1 F 4 = nI w) (hK : KOk w x.2.2.1) (hx : CM h.1 F x) (hh : 0 < hcN w x.2.2.1) (hQ : Q (nI (fhN w x.2.2.1)) h) : P_X1_firstHeld F h Q := by
  refine lpc2 fun X hX => ?_
  have hf := (fh_held w x.2.2.1 hh).1
  have key : ∀ d n, n + d = w → n + fhN d (fun k => x.2.2.1 (k + n)) = fhN w x.2.2.1 → X (nI n) h := by
    intro d
    induction d with
    | zero =>
      intro n hn he
      have : fhN 0 (fun k => x.2.2.1 (k + n)) = 0 := rfl
      omega
    | succ d ih =>
      intro n hn he
      refine hX _ _ ⟨fun hc => ?_, fun _ => ?_⟩
      · rw [h4, n_ule (by omega) (by omega)] at hc
        omega
      · refine k_holdsAt hx.1 hx.2.1 hx.2.2.2.1 hK.2 (by omega) ?_
        have he' : n + (if 2 ≤ x.2.2.1 (0 + n) then 0 else fhN d (fun k => x.2.2.1 (k + 1 + n)) + 1) = fhN w x.2.2.1 := he
        rw [Nat.zero_add] at he'
        by_cases hc : 2 ≤ x.2.2.1 n
        · rw [if_pos hc] at he' ⊢
          refine ⟨fun z => absurd z (by decide), fun _ => ?_⟩
          rw [show n = fhN w x.2.2.1 by omega]
          exact hQ
        · rw [if_neg hc] at he' ⊢
          refine ⟨fun _ => ?_, fun z => absurd rfl z⟩
          rw [nI_1]
          refine ih (n + 1) (by omega) ?_
          rw [← he']
          have : (fun k => x.2.2.1 (k + (n + 1))) = (fun k => x.2.2.1 (k + 1 + n)) := by
            funext k
            rw [show k + (n + 1) = k + 1 + n by omega]
          rw [this]
          omega
  exact key w 0 (by omega) (by rw [Nat.zero_add]; rfl)
theorem k_tick {F : Nat} {y : FYS} {h : HP} {Q : HP → Prop} (hF : 40 < F) (hy : CFar h.1 F y) (ok : YOk y) (hQ : ∀ h' : HP, h'.2 = h.2 → CFar h'.1 F (tickA y) → Fr (sFar F) h.1 h'.1 → Q h') : P_X1_tick F h Q := by
  obtain ⟨o1, ⟨o2, o2'⟩, o3, o4, o5, o6, o7, o8, o9⟩ := ok
  refine ⟨fun hz => absurd (hy.1.symm.trans hz) (by decide), fun _ => ⟨fun hk => ?_, fun hk => ?_⟩⟩
  · refine hQ h rfl ?_ Fr.rf
    unfold tickA
    rw [if_neg]
    · exact hy
    · rintro ⟨z, -⟩
      exact hk (by rw [hy.2.1, z]; rfl)
  · have hkd : y.1.1 = 1 := by
      have hk' : nI y.1.1 = nI 1 := hy.2.1.symm.trans hk
      rw [n_ueq (by omega) (by omega)] at hk'
      exact hk'
    have h9 := hy.2.2.2.2.2.2.2.2.2.2.1
    have h5 := hy.2.2.2.1
    have hcle : hcN y.1.2.1 y.2.2.2.2.2.1 < 2 ^ 31 := by
      have hb : ∀ n (K : Nat → Nat), hcN n K ≤ n := by
        intro n K
        induction n with
        | zero => exact Nat.le_refl _
        | succ n ih => show hcN n K + _ ≤ _; split <;> omega
      have := hb y.1.2.1 y.2.2.2.2.2.1
      omega
    refine k_heldCount (w := y.1.2.1) o2' hy.2.2.1 o8 hy.2.2.2.2.2.2.2.2 ⟨fun hc => ?_, fun hc => ?_⟩
    · rw [n0, n_ueq hcle (by omega)] at hc
      have hcond : y.1.1 = 1 ∧ 0 < hcN y.1.2.1 y.2.2.2.2.2.1 := ⟨hkd, by omega⟩
      rw [si_s, si_p (by decide), h9, h5, nI_1, n_ult (by omega) (by omega)]
      have eM : CM (si h F 9 (nI (y.2.2.2.2.1 + 1))).1 F (y.2.2.2.1, y.2.2.2.2.1 + 1, y.2.2.2.2.2) := by
        obtain ⟨a1, a2, a3, a4, a5⟩ := hy.2.2.2.2.2.2.2.2
        exact ⟨a1, by rw [si_p (by decide)]; exact a2, by rw [si_s], fun k hk => by rw [si_o (by omega)]; exact a4 k hk, a5.fr (by rw [si_o (by omega)]) (fun i => by rw [si_o (by omega)]) (by rw [si_o (by omega)])⟩
      have eF : Fr (sMv F) h.1 (si h F 9 (nI (y.2.2.2.2.1 + 1))).1 := Fr.si (Or.inl ⟨rfl, Or.inr rfl⟩)
      have eY := hy.mv hF eF eM
      refine ⟨fun hlt => ?_, fun hlt => ?_⟩
      · refine hQ _ rfl ?_ (eF.mono fun _ _ => sMv_far)
        unfold tickA
        rw [if_pos hcond, if_pos hlt]
        exact eY
      · refine k_firstHeld (w := y.1.2.1) (x := (y.2.2.2.1, y.2.2.2.2.1 + 1, y.2.2.2.2.2)) o2' eY.2.2.1 o8 eM hcond.2 ?_
        have hf := (fh_held _ _ hcond.2).1
        refine k_moveFrom (w := y.1.2.1) (s := fhN y.1.2.1 y.2.2.2.2.2.1) (x := (y.2.2.2.1, y.2.2.2.2.1 + 1, y.2.2.2.2.2)) hF o2' eY.2.2.1 o8 eM (by omega) fun h2 g1 gM gF => ?_
        have gY := eY.mv hF gF gM
        refine k_moveOn (w := y.1.2.1) (x := mvA (fhN y.1.2.1 y.2.2.2.2.2.1) (y.2.2.2.1, y.2.2.2.2.1 + 1, y.2.2.2.2.2)) hF o2' gY.2.2.1 (mvA_ok (x := (y.2.2.2.1, y.2.2.2.2.1 + 1, y.2.2.2.2.2)) o8) gM fun h3 g1' gM' gF' => ?_
        refine hQ h3 (g1'.trans g1) ?_ ((eF.mono fun _ _ => sMv_far).tr ((gF.mono fun _ _ => sMv_far).tr (gF'.mono fun _ _ => sMv_far)))
        have := gY.mv hF gF' gM'
        unfold tickA
        rw [if_pos hcond, if_neg hlt]
        exact this
    · rw [n0, n_ueq hcle (by omega)] at hc
      refine hQ h rfl ?_ Fr.rf
      unfold tickA
      rw [if_neg]
      · exact hy
      · rintro ⟨-, z⟩
        omega
theorem k_end0 {F : Nat} {h : HP} {Q : HP → Prop} (h2 : h.1 F 2 = 0) (hQ : Q h) : P_X1_end F h Q := ⟨fun _ => hQ, fun hz => absurd h2 hz⟩
theorem k_end {F : Nat} {y : FYS} {h : HP} {Q : HP → Prop} (hF : 40 < F) (hy : CFar h.1 F y) (ok : YOk y) (hQ : ∀ h' : HP, h'.2 = h.2 → h'.1 F 2 = 0 → CO h'.1 F (rlN y.1.2.1 y.2.2.2.2.2.1 y.2.2.2.2.2.2) → Fr (sFar F) h.1 h'.1 → h'.1 4 5 = h.1 4 5 → Q h') : P_X1_end F h Q := by
  obtain ⟨o1, ⟨o2, o2'⟩, o3, o4, o5, o6, o7, o8, o9⟩ := ok
  refine ⟨fun hz => absurd (hy.1.symm.trans hz) (by decide), fun _ => ?_⟩
  rw [hy.2.2.1]
  refine k_moveFrom (w := y.1.2.1) hF o2' hy.2.2.1 o8 hy.2.2.2.2.2.2.2.2 (by omega) fun h2 g1 gM gF => ?_
  refine hQ _ g1 (by rw [si_s]) ?_ ((gF.mono fun _ _ => sMv_far).tr (Fr.si (Or.inl ⟨rfl, by omega, by omega⟩))) ?_
  · have hO := gM.2.2.2.2
    have hmv : (mvA y.1.2.1 y.2.2.2).2.2.2 = rlN y.1.2.1 y.2.2.2.2.2.1 y.2.2.2.2.2.2 := by unfold mvA; rw [if_neg (by omega)]
    rw [hmv] at hO
    exact hO.fr (by rw [si_o (by omega)]) (fun i => by rw [si_o (by omega)]) (by rw [si_o (by omega)])
  · rw [si_o (by omega)]
    exact gF _ _ (by rintro (⟨z, -⟩ | z | ⟨z, -⟩ | z | ⟨-, z⟩) <;> omega)
def new1 (kd w ho : Nat) (d5 : Int32) (os : OS) : FYS := ((kd, w, ho, 0, 0), 0, d5, 0, 0, (fun _ => 0), os)
theorem k_beginZ {F kd w ho : Nat} {os : OS} {h : HP} {Q : HP → Prop} (hF : 40 < F) (hO : CO h.1 F os) (hQ : ∀ h' : HP, h'.2 = h.2 → CFar h'.1 F (new1 kd w ho (h.1 4 5) os) → Fr (sFar F) h.1 h'.1 → Q h') : Lp2 (fun X_52 (i4_52 : Int32) (h_52 : HP) => ((16 ≤ i4_52) → Q h_52) ∧ ((¬ 16 ≤ i4_52) → ((vp_in i4_52 16) ∧ (X_52 (i4_52 + 1) (si h_52 (F + 3) i4_52.toNatClampNeg (-1)))))) 0 (si (si (si (si (si (si (si (si (si h F 2 1) F 3 (nI kd)) F 4 (nI w)) F 5 (nI ho)) F 6 0) F 7 0) F 8 0) F 9 0) F 10 0) := by
  refine lpc2 fun X hX => ?_
  have key : ∀ d n (h1 : HP), n + d = 16 → h1.2 = h.2 → (∀ k, k < n → h1.1 (F + 3) k = -1) → (∀ a b, a ≠ F + 3 → h1.1 a b = (si (si (si (si (si (si (si (si (si h F 2 1) F 3 (nI kd)) F 4 (nI w)) F 5 (nI ho)) F 6 0) F 7 0) F 8 0) F 9 0) F 10 0).1 a b) → X (nI n) h1 := by
    intro d
    induction d with
    | zero =>
      intro n h1 hn e1 e2 e3
      refine hX _ _ ⟨fun _ => ?_, fun hc => absurd ?_ hc⟩
      · have ho : ∀ a b, a ≠ F → a ≠ F + 3 → h1.1 a b = h.1 a b := fun a b z1 z2 => by rw [e3 a b z2, si_o z1, si_o z1, si_o z1, si_o z1, si_o z1, si_o z1, si_o z1, si_o z1, si_o z1]
        refine hQ h1 e1 ⟨?_, ?_, ?_, ?_, ?_, ?_, ?_, ?_, ?_, ?_, ?_, fun k hk => ?_, ?_⟩ (fun a b nb => ?_)
        · rw [e3 _ _ (by omega)]; simp [si_1]
        · rw [e3 _ _ (by omega)]; simp [si_1]; rfl
        · rw [e3 _ _ (by omega)]; simp [si_1]; rfl
        · rw [e3 _ _ (by omega)]; simp [si_1]; rfl
        · rw [e3 _ _ (by omega)]; simp [si_1]; rfl
        · rw [e3 _ _ (by omega)]; simp [si_1]; rfl
        · rw [e3 _ _ (by omega)]; simp [si_1]; rfl
        · exact ho _ _ (by omega) (by omega)
        · exact (by decide : 0 < 64)
        · rw [e3 _ _ (by omega)]; simp [si_1]; rfl
        · rw [e3 _ _ (by omega)]; simp [si_1]; rfl
        · rw [e2 _ (by omega)]; exact enc_0.symm
        · exact hO.fr (ho _ _ (by omega) (by omega)) (fun i => ho _ _ (by omega) (by omega)) (ho _ _ (by omega) (by omega))
        · by_cases z2 : a = F + 3
          · exact absurd (Or.inr (Or.inr (Or.inr (Or.inl z2)))) nb
          · by_cases z1 : a = F
            · have hb : ∀ j, 2 ≤ j → j ≤ 10 → b ≠ j := fun j j1 j2 z => nb (Or.inl ⟨z1, by omega, by omega⟩)
              rw [e3 a b z2, si_p (hb 10 (by omega) (by omega)), si_p (hb 9 (by omega) (by omega)), si_p (hb 8 (by omega) (by omega)), si_p (hb 7 (by omega) (by omega)), si_p (hb 6 (by omega) (by omega)), si_p (hb 5 (by omega) (by omega)), si_p (hb 4 (by omega) (by omega)), si_p (hb 3 (by omega) (by omega)), si_p (hb 2 (by omega) (by omega))]
            · exact ho a b z1 z2
      · rw [show (16 : Int32) = nI 16 from rfl, n_ule (by omega) (by omega)]
        omega
    | succ d ih =>
      intro n h1 hn e1 e2 e3
      refine hX _ _ ⟨fun hc => ?_, fun _ => ?_⟩
      · rw [show (16 : Int32) = nI 16 from rfl, n_ule (by omega) (by omega)] at hc
        omega
      · rw [n_cl (by omega), nI_1]
        refine ⟨n_in (by omega) (by omega), ih (n + 1) _ (by omega) e1 (fun k hk => ?_) (fun a b z => by rw [si_o z]; exact e3 a b z)⟩
        rw [si_1]
        by_cases hkn : k = n
        · rw [if_pos ⟨rfl, hkn⟩]
        · rw [if_neg (by intro z; omega)]
          exact e2 k (by omega)
  exact key 16 0 _ (by omega) rfl (fun k hk => absurd hk (by omega)) (fun _ _ _ => rfl)
