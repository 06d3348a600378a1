theorem m_bar {c nb : Nat} {y : FYS} {h : HP} {Q : HP → Prop} (hc : c < 4) (hy : MFar h.1 c y) (ok : YOk y) (hn : nb < 64) (hQ : ∀ h' : HP, h'.2 = h.2 → MFar h'.1 c (barA nb y) → Fr (sFarM c) h.1 h'.1 → P_X9_comesBar_j53 78 (nI c) h' Q) : P_X9_comesBar (nI c) (nI nb) h Q := by
  obtain ⟨o1, ⟨o2, o2'⟩, o3, o4, o5, o6, o7, o8, o9⟩ := ok
  have hic : vp_in (nI c) 4 := n_in hc (by omega)
  unfold P_X9_comesBar
  rw [n_cl (by omega)]
  refine ⟨hic, fun _ => ⟨hic, ?_⟩, fun hz => absurd (hy.1.symm.trans hz) (by decide)⟩
  rw [hy.2.2.2.2.1, p_behindM o4 (by omega)]
  have fin : ∀ (h1 : HP) (m : Nat × Nat), h1.2 = h.2 → m = (if (nb + 64 - y.1.2.2.2.1) % 64 < 32 then mkA ((nb + 64 - y.1.2.2.2.1) % 64) y.1.2.2.2 else y.1.2.2.2) → MFar h1.1 c ((y.1.1, y.1.2.1, y.1.2.2.1, m), y.2) → Fr (sFarM c) h.1 h1.1 → P_X9_comesBar_j29 78 (nI c) (nI nb) h1 Q := by
    intro h1 m e1 em eY eF
    subst em
    have e6 : h1.1 103 c = nI y.2.2.2.1 := eY.2.2.2.2.2.2.2.2.2.1
    unfold P_X9_comesBar_j29
    rw [n_cl (by omega), e6, p_behindM o6 (by omega)]
    refine ⟨hic, ?_⟩
    by_cases hb : (nb + 64 - y.2.2.2.1) % 64 < 32
    · rw [if_pos hb]
      refine ⟨fun hz => absurd rfl hz, fun _ => ?_⟩
      have hnb : nI nb = nI ((y.2.2.2.1 + (nb + 64 - y.2.2.2.1) % 64) % 64) := by congr 1; omega
      rw [hnb]
      refine m_movesTo (w := y.1.2.1) (x := y.2.2.2) hc o2' o8 eY.2.2.2.2.2.2.2.2 (by omega) fun h2 g1 gM gF => ?_
      have gY := eY.mv gF gM
      refine m_goesOn (w := y.1.2.1) hc o2' (mvA_ok o8) gM fun h3 g1' gM' gF' => ?_
      refine hQ h3 (g1'.trans (g1.trans e1)) ?_ (eF.tr ((gF.mono fun _ _ => sMvM_far).tr (gF'.mono fun _ _ => sMvM_far)))
      have := gY.mv gF' gM'
      unfold barA
      rw [if_pos hb]
      exact this
    · rw [if_neg hb]
      refine ⟨fun _ => hQ h1 e1 ?_ eF, fun hz => absurd hz (by decide)⟩
      unfold barA
      rw [if_neg hb]
      exact eY
  by_cases hb : (nb + 64 - y.1.2.2.2.1) % 64 < 32
  · rw [if_pos hb]
    refine ⟨fun hz => absurd rfl hz, fun _ => ?_⟩
    have hnb : P_X9_marksTo (nI c) (nI nb) h = P_X9_marksTo (nI c) (nI ((y.1.2.2.2.1 + (nb + 64 - y.1.2.2.2.1) % 64) % 64)) h := by
      rw [show (y.1.2.2.2.1 + (nb + 64 - y.1.2.2.2.1) % 64) % 64 = nb by omega]
    rw [hnb]
    exact m_marksTo (w := y.1.2.1) hc hy o2' o4 o5 (by omega) fun h1 e1 eY eF => fin h1 _ e1 (if_pos hb).symm eY eF
  · rw [if_neg hb]
    exact ⟨fun _ => fin h _ rfl (if_neg hb).symm hy Fr.rf, fun hz => absurd hz (by decide)⟩
theorem hcN_le (n : Nat) (K : Nat → Nat) : hcN n K ≤ n := by
  induction n with
  | zero => exact Nat.le_refl _
  | succ n ih => show hcN n K + _ ≤ _; split <;> omega
theorem m_firstHeld {c w : Nat} {x : FMS} {h : HP} {Q : Int32 → HP → Prop} (hc : c < 4) (hw : w ≤ 12) (h1 : h.1 101 c = nI w) (hK : KOk w x.2.2.1) (hx : MM h.1 c x) (hQ : Q (if 0 < hcN w x.2.2.1 then nI ((x.1 + fhN w x.2.2.1) % 64) else (-1)) h) : P_X9_firstHeld (nI c) h Q := by
  refine lpc2 fun X hX => ?_
  have hic : vp_in (nI c) 4 := n_in hc (by omega)
  have hfr := hx.1
  have key : ∀ d n, n + d = w → (∀ k, k < n → ¬ 2 ≤ x.2.2.1 k) → (0 < hcN w x.2.2.1 → n + fhN d (fun k => x.2.2.1 (k + n)) = fhN w x.2.2.1) → X (nI n) h := by
    intro d
    induction d with
    | zero =>
      intro n hn hno he
      refine hX _ _ ?_
      rw [n_cl (by omega), h1, n_ule (by omega) (by omega)]
      refine ⟨hic, fun _ => ?_, fun hz => absurd (by omega) hz⟩
      have h0 : hcN w x.2.2.1 = 0 := by
        have : ∀ j, j ≤ w → hcN j x.2.2.1 = 0 := by
          intro j
          induction j with
          | zero => exact fun _ => rfl
          | succ j ih =>
            intro hj
            show hcN j x.2.2.1 + (if 2 ≤ x.2.2.1 j then 1 else 0) = 0
            rw [ih (by omega), if_neg (hno j (by omega))]
        exact this w (Nat.le_refl _)
      rw [if_neg (by omega)] at hQ
      exact hQ
    | succ d ih =>
      intro n hn hno he
      refine hX _ _ ?_
      have hKn := hK.2 n
      rw [n_cl (by omega), h1, n_ule (by omega) (by omega), hx.2.1, nI_add, n_rem64 (by omega), n64, nI_add, n_cl (by omega), hx.2.2.2.1 n (by omega), enc_le (by omega)]
      refine ⟨hic, fun hz => absurd hz (by omega), fun _ => ⟨hic, n_in (by omega) (by omega), fun hz => ?_, fun hz => ?_⟩⟩
      · rw [nI_1]
        refine ih (n + 1) (by omega) (fun k hk => ?_) (fun hp => ?_)
        · by_cases hkn : k = n
          · rw [hkn]; omega
          · exact hno k (by omega)
        · have he' : n + (if 2 ≤ x.2.2.1 (0 + n) then 0 else fhN d (fun k => x.2.2.1 (k + 1 + n)) + 1) = fhN w x.2.2.1 := he hp
          rw [Nat.zero_add, if_neg (by omega)] at he'
          rw [← he']
          have : (fun k => x.2.2.1 (k + (n + 1))) = (fun k => x.2.2.1 (k + 1 + n)) := by
            funext k
            rw [show k + (n + 1) = k + 1 + n by omega]
          rw [this]
          omega
      · have hp : 0 < hcN w x.2.2.1 := by
          have : ∀ j, n < j → j ≤ w → 0 < hcN j x.2.2.1 := by
            intro j
            induction j with
            | zero => intro z; omega
            | succ j ih =>
              intro z1 z2
              show 0 < hcN j x.2.2.1 + (if 2 ≤ x.2.2.1 j then 1 else 0)
              by_cases hj : j = n
              · rw [hj, if_pos (by omega)]
                omega
              · have := ih (by omega) (by omega)
                omega
          exact this w (by omega) (Nat.le_refl _)
        have he' : n + (if 2 ≤ x.2.2.1 (0 + n) then 0 else fhN d (fun k => x.2.2.1 (k + 1 + n)) + 1) = fhN w x.2.2.1 := he hp
        rw [Nat.zero_add, if_pos (by omega)] at he'
        rw [if_pos hp, ← he'] at hQ
        exact hQ
  exact key w 0 (by omega) (fun k hk => absurd hk (by omega)) (fun _ => by rw [Nat.zero_add]; rfl)
theorem m_heldMany {c w : Nat} {x : FMS} {h : HP} {Q : Int32 → HP → Prop} (hc : c < 4) (hw : w ≤ 12) (h1 : h.1 101 c = nI w) (hK : KOk w x.2.2.1) (hx : MM h.1 c x) (hQ : Q (nI (hcN w x.2.2.1)) h) : P_X9_heldMany (nI c) h Q := by
  refine lpc3 fun X hX => ?_
  have hic : vp_in (nI c) 4 := n_in hc (by omega)
  have hfr := hx.1
  have key : ∀ d n, n + d = w → X (nI (hcN n x.2.2.1)) (nI n) h := by
    intro d
    induction d with
    | zero =>
      intro n hn
      refine hX _ _ _ ?_
      rw [n_cl (by omega), h1, n_ule (by omega) (by omega)]
      refine ⟨hic, fun _ => ?_, fun hz => absurd (by omega) hz⟩
      rw [show n = w by omega]
      exact hQ
    | succ d ih =>
      intro n hn
      refine hX _ _ _ ?_
      have hKn := hK.2 n
      have hih := ih (n + 1) (by omega)
      rw [show hcN (n + 1) x.2.2.1 = hcN n x.2.2.1 + (if 2 ≤ x.2.2.1 n then 1 else 0) from rfl] at hih
      rw [n_cl (by omega), h1, n_ule (by omega) (by omega), hx.2.1, nI_add, n_rem64 (by omega), n64, nI_add, n_cl (by omega), hx.2.2.2.1 n (by omega), enc_le (by omega)]
      refine ⟨hic, fun hz => absurd hz (by omega), fun _ => ⟨hic, n_in (by omega) (by omega), fun hz => ?_, fun hz => ?_⟩⟩
      · rw [if_neg (by omega)] at hih
        rw [nI_1, Int32.add_zero]
        exact hih
      · rw [if_pos (by omega)] at hih
        rw [nI_1, nI_1]
        exact hih
  exact key w 0 (by omega)
theorem m_tick {c : Nat} {y : FYS} {h : HP} {Q : HP → Prop} (hc : c < 4) (hy : MFar h.1 c y) (ok : YOk y) (hQ : ∀ h' : HP, h'.2 = h.2 → MFar h'.1 c (tickA y) → Fr (sFarM c) h.1 h'.1 → Q h') : P_X9_tick (nI c) h Q := by
  obtain ⟨o1, ⟨o2, o2'⟩, o3, o4, o5, o6, o7, o8, o9⟩ := ok
  have hic : vp_in (nI c) 4 := n_in hc (by omega)
  unfold P_X9_tick
  rw [n_cl (by omega)]
  refine ⟨hic, fun hz => absurd (hy.1.symm.trans hz) (by decide), fun _ => ⟨hic, fun hk => ?_, fun hk => ?_⟩⟩
  · refine hQ h rfl ?_ Fr.rf
    unfold tickA
    rw [if_neg]
    · exact hy
    · rintro ⟨z, -⟩
      exact hk (by rw [hy.2.1, z]; rfl)
  · have hkd : y.1.1 = 1 := by
      have hk' : nI y.1.1 = nI 1 := hy.2.1.symm.trans hk
      rw [n_ueq (by omega) (by omega)] at hk'
      exact hk'
    have h9 := hy.2.2.2.2.2.2.2.2.2.2.1
    have h5 := hy.2.2.2.1
    have hcle := hcN_le y.1.2.1 y.2.2.2.2.2.1
    refine m_firstHeld (w := y.1.2.1) hc o2' hy.2.2.1 o8 hy.2.2.2.2.2.2.2.2 ?_
    by_cases hpos : 0 < hcN y.1.2.1 y.2.2.2.2.2.1
    · rw [if_pos hpos]
      have hcond : y.1.1 = 1 ∧ 0 < hcN y.1.2.1 y.2.2.2.2.2.1 := ⟨hkd, hpos⟩
      have hne : ∀ n, n < 64 → ¬ nI n = -1 := by decide +kernel
      refine ⟨fun _ => ⟨hic, hic, hic, hic, ?_⟩, fun hz => absurd hz (hne _ (by omega))⟩
      rw [si_s, si_o (by decide), h9, h5, nI_1, n_ueq (by omega) (by omega)]
      have eM : MM (si h 106 c (nI (y.2.2.2.2.1 + 1))).1 c (y.2.2.2.1, y.2.2.2.2.1 + 1, y.2.2.2.2.2) := by
        obtain ⟨a1, a2, a3, a4, a5⟩ := hy.2.2.2.2.2.2.2.2
        exact ⟨a1, by rw [si_o (by decide)]; exact a2, by rw [si_s], fun k hk => by rw [si_o (by decide)]; exact a4 k hk, a5.fr (by rw [si_o (by decide)]) (fun i => by rw [si_o (by decide)]) (by rw [si_o (by decide)])⟩
      have eF : Fr (sMvM c) h.1 (si h 106 c (nI (y.2.2.2.2.1 + 1))).1 := Fr.si (Or.inl ⟨Or.inr rfl, rfl⟩)
      have eY := hy.mv eF eM
      have hf := (fh_held _ _ hpos).1
      refine ⟨fun hne => ?_, fun heq => ?_⟩
      · refine hQ _ rfl ?_ (eF.mono fun _ _ => sMvM_far)
        unfold tickA
        rw [if_pos hcond, if_pos (by omega)]
        exact eY
      · refine m_firstHeld (w := y.1.2.1) (x := (y.2.2.2.1, y.2.2.2.2.1 + 1, y.2.2.2.2.2)) hc o2' eY.2.2.1 o8 eM ?_
        show P_X9_movesTo (nI c) (if 0 < hcN y.1.2.1 y.2.2.2.2.2.1 then nI ((y.2.2.2.1 + fhN y.1.2.1 y.2.2.2.2.2.1) % 64) else (-1)) _ _
        rw [if_pos hpos]
        refine m_movesTo (w := y.1.2.1) (s := fhN y.1.2.1 y.2.2.2.2.2.1) (x := (y.2.2.2.1, y.2.2.2.2.1 + 1, y.2.2.2.2.2)) hc o2' o8 eM (by omega) fun h2 g1 gM gF => ?_
        have gY := eY.mv gF gM
        refine m_goesOn (w := y.1.2.1) (x := mvA (fhN y.1.2.1 y.2.2.2.2.2.1) (y.2.2.2.1, y.2.2.2.2.1 + 1, y.2.2.2.2.2)) hc o2' (mvA_ok (x := (y.2.2.2.1, y.2.2.2.2.1 + 1, y.2.2.2.2.2)) o8) gM fun h3 g1' gM' gF' => ?_
        refine hQ h3 (g1'.trans g1) ?_ ((eF.mono fun _ _ => sMvM_far).tr ((gF.mono fun _ _ => sMvM_far).tr (gF'.mono fun _ _ => sMvM_far)))
        have := gY.mv gF' gM'
        unfold tickA
        rw [if_pos hcond, if_neg (by omega)]
        exact this
    · rw [if_neg hpos]
      refine ⟨fun hz => absurd rfl hz, fun _ => hQ h rfl ?_ Fr.rf⟩
      unfold tickA
      rw [if_neg]
      · exact hy
      · rintro ⟨-, z⟩
        exact hpos z
theorem m_tick0 {c : Nat} {h : HP} {Q : HP → Prop} (hc : c < 4) (h9 : h.1 99 c = 0) (hQ : Q h) : P_X9_tick (nI c) h Q := by
  unfold P_X9_tick
  rw [n_cl (by omega)]
  exact ⟨n_in hc (by omega), fun _ => hQ, fun hz => absurd h9 hz⟩
theorem k_tick0 {F : Nat} {h : HP} {Q : HP → Prop} (h2 : h.1 F 2 = 0) (hQ : Q h) : P_X1_tick F h Q := ⟨fun _ => hQ, fun hz => absurd h2 hz⟩
theorem m_ends0 {c : Nat} {h : HP} {Q : HP → Prop} (hc : c < 4) (h9 : h.1 99 c = 0) (hQ : Q h) : P_X9_ends (nI c) h Q := by
  unfold P_X9_ends
  rw [n_cl (by omega)]
  exact ⟨n_in hc (by omega), fun hz => absurd h9 hz, fun _ => hQ⟩
theorem m_ends {c : Nat} {y : FYS} {h : HP} {Q : HP → Prop} (hc : c < 4) (hy : MFar h.1 c y) (ok : YOk y) (hQ : ∀ h' : HP, h'.2 = h.2 → h'.1 99 c = 0 → MO h'.1 c (rlN y.1.2.1 y.2.2.2.2.2.1 y.2.2.2.2.2.2) → Fr (sFarM c) h.1 h'.1 → h'.1 80 5 = h.1 80 5 → Q h') : P_X9_ends (nI c) h Q := by
  obtain ⟨o1, ⟨o2, o2'⟩, o3, o4, o5, o6, o7, o8, o9⟩ := ok
  have hic : vp_in (nI c) 4 := n_in hc (by omega)
  obtain ⟨x1, x2, x3, x4, x5⟩ := hy.2.2.2.2.2.2.2.2
  unfold P_X9_ends
  rw [n_cl (by omega)]
  refine ⟨hic, fun _ => ?_, fun hz => absurd (hy.1.symm.trans hz) (by decide)⟩
  refine lpc2 fun X hX => ?_
  have key : ∀ d n (h1 : HP), n + d = y.1.2.1 → h1.2 = h.2 → MO h1.1 c (rlN n y.2.2.2.2.2.1 y.2.2.2.2.2.2) → Fr (sRelM c) h.1 h1.1 → X (nI n) h1 := by
    intro d
    induction d with
    | zero =>
      intro n h1 hn e1 eO eF
      have e101 : h1.1 101 c = nI y.1.2.1 := by rw [eF _ _ (by rintro (⟨z, -⟩ | ⟨z, -⟩ | ⟨z, -⟩) <;> omega)]; exact hy.2.2.1
      refine hX _ _ ?_
      rw [e101, n_ule (by omega) (by omega)]
      refine ⟨hic, fun _ => ⟨hic, hQ _ e1 (by rw [si_s]) ?_ ((eF.mono fun _ _ z => sMvM_far (Or.inr (Or.inr z))).tr (Fr.si (Or.inl ⟨by omega, by omega, rfl⟩))) ?_⟩, fun hz => absurd (by omega) hz⟩
      · rw [show n = y.1.2.1 by omega] at eO
        exact eO.fr (by rw [si_o (by decide)]) (fun i => by rw [si_o (by decide)]) (by rw [si_o (by decide)])
      · rw [si_o (by decide)]
        exact eF _ _ (by rintro (⟨z, -⟩ | ⟨z, -⟩ | ⟨-, z⟩) <;> omega)
    | succ d ih =>
      intro n h1 hn e1 eO eF
      have e101 : h1.1 101 c = nI y.1.2.1 := by rw [eF _ _ (by rintro (⟨z, -⟩ | ⟨z, -⟩ | ⟨z, -⟩) <;> omega)]; exact hy.2.2.1
      have e103 : h1.1 103 c = nI y.2.2.2.1 := by rw [eF _ _ (by rintro (⟨z, -⟩ | ⟨z, -⟩ | ⟨z, -⟩) <;> omega)]; exact x2
      have e108 : ∀ b, h1.1 108 b = h.1 108 b := fun b => eF _ _ (by rintro (⟨z, -⟩ | ⟨z, -⟩ | ⟨z, -⟩) <;> omega)
      have hKn := o8.2 n
      refine hX _ _ ?_
      rw [e101, n_ule (by omega) (by omega), e103, nI_add, n_rem64 (by omega), n64, nI_add, n_cl (by omega), e108, x4 n (by omega), enc_le (by omega)]
      refine ⟨hic, fun hz => absurd hz (by omega), fun _ => ⟨hic, n_in (by omega) (by omega), fun hz => ?_, fun hz => ?_⟩⟩
      · rw [nI_1]
        refine ih (n + 1) h1 (by omega) e1 ?_ eF
        show MO _ c (if 2 ≤ y.2.2.2.2.2.1 n then _ else _)
        rw [if_neg (by omega)]
        exact eO
      · rw [nI_1]
        refine m_release hc eO fun h2 g1 gO gF => ih (n + 1) h2 (by omega) (g1.trans e1) ?_ (eF.tr gF)
        show MO _ c (if 2 ≤ y.2.2.2.2.2.1 n then _ else _)
        rw [if_pos (by omega)]
        exact gO
  exact key y.1.2.1 0 h (by omega) rfl x5 Fr.rf
/-- ASK arrives: a new session, up to the YES -/
theorem m_askZ {c kd w ho : Nat} {os : OS} {h : HP} {Q : HP → Prop} (hc : c < 4) (hO : MO h.1 c os) (hQ : ∀ h' : HP, h'.2 = h.2 → MFar h'.1 c (new1 kd w ho (h.1 80 5) os) → Fr (sFarM c) h.1 h'.1 → P_X9_send 1 (nI c) (-1) (-1) (nI w) h' (fun (v_120 : Int32) (h_120 : HP) => Q h_120)) : P_X9_comesAsk_j37 78 (nI c) (nI ho) (si (si (si h 99 c 1) 100 c (nI kd)) 101 c (nI w)) Q := by
  have hic : vp_in (nI c) 4 := n_in hc (by omega)
  unfold P_X9_comesAsk_j37
  rw [n_cl (by omega)]
  refine ⟨hic, hic, hic, hic, hic, hic, ?_⟩
  refine lpc2 fun X hX => ?_
  have key : ∀ d n (h1 : HP), n + d = 64 → h1.2 = h.2 → (∀ k, k < n → h1.1 108 (64 * c + k) = -1) → (∀ a b, a ≠ 108 → h1.1 a b = (si (si (si (si (si (si (si (si (si h 99 c 1) 100 c (nI kd)) 101 c (nI w)) 102 c (nI ho)) 103 c 0) 104 c 0) 105 c 0) 106 c 0) 107 c 0).1 a b) → Fr (sFarM c) h.1 h1.1 → X (nI n) h1 := by
    intro d
    induction d with
    | zero =>
      intro n h1 hn e1 e2 e3 eF
      refine hX _ _ ⟨fun _ => ⟨hic, ?_⟩, fun hz => absurd ?_ hz⟩
      · have hoo : ∀ a b, ¬ (99 ≤ a ∧ a ≤ 108) → h1.1 a b = h.1 a b := fun a b z => by rw [e3 a b (by omega), si_o (by omega), si_o (by omega), si_o (by omega), si_o (by omega), si_o (by omega), si_o (by omega), si_o (by omega), si_o (by omega), si_o (by omega)]
        have e101 : h1.1 101 c = nI w := by rw [e3 _ _ (by decide)]; simp [si_1]
        rw [e101]
        refine hQ h1 e1 ⟨?_, ?_, ?_, ?_, ?_, ?_, ?_, ?_, ?_, ?_, ?_, fun k hk => ?_, ?_⟩ eF
        · rw [e3 _ _ (by decide)]; simp [si_1]
        · rw [e3 _ _ (by decide)]; simp [si_1]; rfl
        · exact e101
        · rw [e3 _ _ (by decide)]; simp [si_1]; rfl
        · rw [e3 _ _ (by decide)]; simp [si_1]; rfl
        · rw [e3 _ _ (by decide)]; simp [si_1]; rfl
        · rw [e3 _ _ (by decide)]; simp [si_1]; rfl
        · exact hoo _ _ (by omega)
        · exact (by decide : 0 < 64)
        · rw [e3 _ _ (by decide)]; simp [si_1]; rfl
        · rw [e3 _ _ (by decide)]; simp [si_1]; rfl
        · have hz : (new1 kd w ho (h.1 80 5) os).2.2.2.1 = 0 := rfl
          rw [hz, Nat.zero_add, Nat.mod_eq_of_lt hk, e2 k (by omega)]
          exact enc_0.symm
        · exact hO.fr (hoo _ _ (by omega)) (fun i => hoo _ _ (by omega)) (hoo _ _ (by omega))
      · rw [show (64 : Int32) = nI 64 from rfl, n_ule (by omega) (by omega)]
        omega
    | succ d ih =>
      intro n h1 hn e1 e2 e3 eF
      refine hX _ _ ⟨fun hz => ?_, fun _ => ?_⟩
      · rw [show (64 : Int32) = nI 64 from rfl, n_ule (by omega) (by omega)] at hz
        omega
      · rw [n64, nI_add, n_cl (by omega), nI_1]
        refine ⟨n_in (by omega) (by omega), ih (n + 1) _ (by omega) e1 (fun k hk => ?_) (fun a b z => by rw [si_o z]; exact e3 a b z) (eF.tr (Fr.si (Or.inr (Or.inl ⟨rfl, by omega, by omega⟩))))⟩
        rw [si_1]
        by_cases hkn : k = n
        · rw [if_pos ⟨rfl, by omega⟩]
        · rw [if_neg (by intro z; omega)]
          exact e2 k (by omega)
  refine key 64 0 _ (by omega) rfl (fun k hk => absurd hk (by omega)) (fun _ _ _ => rfl) ?_
  have q : ∀ a, 99 ≤ a → a ≤ 107 → sFarM c a c := fun a h1 h2 => Or.inl ⟨h1, h2, rfl⟩
  exact (Fr.si (q 99 (by omega) (by omega))).tr ((Fr.si (q 100 (by omega) (by omega))).tr ((Fr.si (q 101 (by omega) (by omega))).tr ((Fr.si (q 102 (by omega) (by omega))).tr ((Fr.si (q 103 (by omega) (by omega))).tr ((Fr.si (q 104 (by omega) (by omega))).tr ((Fr.si (q 105 (by omega) (by omega))).tr ((Fr.si (q 106 (by omega) (by omega))).tr (Fr.si (q 107 (by omega) (by omega))))))))))
