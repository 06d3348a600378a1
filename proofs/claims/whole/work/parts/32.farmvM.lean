/-! The reference's far end: what is released; moves of FROM. -/
def MO (g : Nat → Nat → Int32) (c : Nat) (s : OS) : Prop := s.1 ≤ 10 ∧ g 109 c = nI s.1 ∧ (∀ i, i < s.1 → g 110 (10 * c + i) = s.2.1 i) ∧ g 80 4 = s.2.2
def sRelM (c a b : Nat) : Prop := (a = 109 ∧ b = c) ∨ (a = 110 ∧ 10 * c ≤ b ∧ b < 10 * c + 10) ∨ (a = 80 ∧ b = 4)
theorem n10 (c : Nat) : 10 * nI c = nI (10 * c) := pk_mul 10 c
theorem n64 (c : Nat) : 64 * nI c = nI (64 * c) := pk_mul 64 c
theorem n24 (c : Nat) : 24 * nI c = nI (24 * c) := pk_mul 24 c
theorem n8 (c : Nat) : 8 * nI c = nI (8 * c) := pk_mul 8 c
theorem n32 (c : Nat) : 32 * nI c = nI (32 * c) := pk_mul 32 c
theorem n4 (c : Nat) : 4 * nI c = nI (4 * c) := pk_mul 4 c
theorem n_m1 {n : Nat} (h : 0 < n) : nI n - 1 = nI (n - 1) := by
  obtain ⟨m, rfl⟩ : ∃ m, n = m + 1 := ⟨n - 1, by omega⟩
  exact nI_pred m
theorem m_release {c : Nat} {v : Int32} {h : HP} {Q : HP → Prop} {s : OS} (hc : c < 4) (hx : MO h.1 c s) (hQ : ∀ h' : HP, h'.2 = h.2 → MO h'.1 c (relO v s) → Fr (sRelM c) h.1 h'.1 → Q h') : P_X9_releases (nI c) v h Q := by
  obtain ⟨h1, h2, h3, h4⟩ := hx
  refine lpc2 fun X hX => ?_
  have hic : vp_in (nI c) 4 := n_in hc (by omega)
  have fin : ∀ h1' : HP, h1'.2 = h.2 → (∀ i, i < 10 → h1'.1 110 (10 * c + i) = if i = 0 then v else h.1 110 (10 * c + (i - 1))) → h1'.1 109 c = nI (min (s.1 + 1) 10) → h1'.1 80 4 = h.1 80 4 → Fr (sRelM c) h.1 h1'.1 → P_X9_releases_j77 78 h1' Q := by
    intro h' e1 e2 e3 e4 eF
    refine hQ _ e1 ⟨Nat.min_le_right _ _, ?_, fun i hi => ?_, ?_⟩ (eF.tr (Fr.si (Or.inr (Or.inr ⟨rfl, rfl⟩))))
    · rw [si_o (by decide), e3]
      rfl
    · have hi' : i < 10 := Nat.lt_of_lt_of_le hi (Nat.min_le_right _ _)
      rw [si_o (by decide), e2 i hi']
      show _ = if i = 0 then v else s.2.1 (i - 1)
      by_cases hi0 : i = 0
      · rw [if_pos hi0, if_pos hi0]
      · rw [if_neg hi0, if_neg hi0]
        have : i < min (s.1 + 1) 10 := hi
        exact h3 (i - 1) (by omega)
    · rw [si_s, e4, h4]
      rfl
  have key : ∀ n (h1' : HP), n ≤ 9 → h1'.2 = h.2 → (∀ i, n < i → i < 10 → h1'.1 110 (10 * c + i) = h.1 110 (10 * c + (i - 1))) → (∀ i, i ≤ n → h1'.1 110 (10 * c + i) = h.1 110 (10 * c + i)) → (∀ a b, a ≠ 110 → h1'.1 a b = h.1 a b) → Fr (sRelM c) h.1 h1'.1 → X (nI n) h1' := by
    intro n
    induction n with
    | zero =>
      intro h' _ e1 e2 e3 e4 eF
      refine hX _ _ ⟨fun _ => ?_, fun hz => absurd ?_ hz⟩
      · rw [n10, n_cl (by omega), n_cl (by omega)]
        have h9 : (si h' 110 (10 * c) v).1 109 c = nI s.1 := by rw [si_o (by decide), e4 _ _ (by decide), h2]
        have hrow : ∀ (z : Int32) (i : Nat), i < 10 → (si (si h' 110 (10 * c) v) 109 c z).1 110 (10 * c + i) = if i = 0 then v else h.1 110 (10 * c + (i - 1)) := by
          intro z i hi
          rw [si_o (by decide), si_1]
          by_cases hi0 : i = 0
          · rw [if_pos ⟨rfl, by omega⟩, if_pos hi0]
          · rw [if_neg (by intro z; omega), if_neg hi0]
            exact e2 i (by omega) hi
        have hfr : ∀ z : Int32, Fr (sRelM c) h.1 (si (si h' 110 (10 * c) v) 109 c z).1 := fun z => eF.tr ((Fr.si (Or.inr (Or.inl ⟨rfl, by omega, by omega⟩))).tr (Fr.si (Or.inl ⟨rfl, rfl⟩)))
        have h80 : ∀ z : Int32, (si (si h' 110 (10 * c) v) 109 c z).1 80 4 = h.1 80 4 := fun z => by rw [si_o (by decide), si_o (by decide), e4 _ _ (by decide)]
        refine ⟨n_in (by omega) (by omega), hic, fun hz => ⟨hic, fin _ e1 (hrow _) ?_ (h80 _) (hfr _)⟩, fun hz => ⟨hic, hic, fin _ e1 (hrow _) ?_ (h80 _) (hfr _)⟩⟩
        · rw [h9, show (10 : Int32) = nI 10 from rfl, n_ule (by omega) (by omega)] at hz
          rw [si_s, show min (s.1 + 1) 10 = 10 by omega]
          rfl
        · rw [h9, show (10 : Int32) = nI 10 from rfl, n_ule (by omega) (by omega)] at hz
          rw [si_s, h9, nI_1, show min (s.1 + 1) 10 = s.1 + 1 by omega]
      · decide
    | succ n ih =>
      intro h' hn e1 e2 e3 e4 eF
      refine hX _ _ ⟨fun hz => ?_, fun _ => ?_⟩
      · rw [n0, n_ule (by omega) (by omega)] at hz
        omega
      · rw [n10, nI_add, n_m1 (by omega), n_cl (by omega), n_cl (by omega), show nI (n + 1) + (-1) = nI n from pk_m1 n, show 10 * c + (n + 1) - 1 = 10 * c + n by omega]
        refine ⟨n_in (by omega) (by omega), n_in (by omega) (by omega), ih _ (by omega) e1 (fun i h5 h6 => ?_) (fun i h5 => ?_) (fun a b h5 => ?_) (eF.tr (Fr.si (Or.inr (Or.inl ⟨rfl, by omega, by omega⟩))))⟩
        · rw [si_1]
          by_cases hi : i = n + 1
          · subst hi
            rw [if_pos ⟨rfl, rfl⟩, e3 n (by omega)]
            rfl
          · rw [if_neg (by intro z; omega)]
            exact e2 i (by omega) h6
        · rw [si_p (by omega)]
          exact e3 i (by omega)
        · rw [si_o h5]
          exact e4 a b h5
  exact key 9 h (by omega) rfl (fun i h1 h2 => absurd h1 (by omega)) (fun _ _ => rfl) (fun _ _ _ => rfl) Fr.rf
def MK (g : Nat → Nat → Int32) (c fr : Nat) (K : Nat → Nat) : Prop := ∀ k, k < 64 → g 108 (64 * c + (fr + k) % 64) = enc (K k)
def MM (g : Nat → Nat → Int32) (c : Nat) (x : FMS) : Prop := x.1 < 64 ∧ g 103 c = nI x.1 ∧ g 106 c = nI x.2.1 ∧ MK g c x.1 x.2.2.1 ∧ MO g c x.2.2.2
def sMvM (c a b : Nat) : Prop := ((a = 103 ∨ a = 106) ∧ b = c) ∨ (a = 108 ∧ 64 * c ≤ b ∧ b < 64 * c + 64) ∨ sRelM c a b
theorem MO.fr {f f' : Nat → Nat → Int32} {c : Nat} {s : OS} (h : MO f c s) (h1 : f' 109 c = f 109 c) (h2 : ∀ i, f' 110 i = f 110 i) (h3 : f' 80 4 = f 80 4) : MO f' c s := ⟨h.1, by rw [h1]; exact h.2.1, fun i hi => by rw [h2]; exact h.2.2.1 i hi, by rw [h3]; exact h.2.2.2⟩
theorem MK_at {g : Nat → Nat → Int32} {c fr p : Nat} {K : Nat → Nat} (h : MK g c fr K) (hfr : fr < 64) (hp : p < 64) : g 108 (64 * c + (fr + p) % 64) = enc (K p) := h p hp
theorem n_rem64 {n : Nat} (h : n < 2 ^ 31) : nI n - nI n / 64 * 64 = nI (n % 64) := n_rem (d := 64) (D := 64) h (by omega) (by omega) rfl
theorem m_steps {c w : Nat} {x : FMS} {h : HP} {Q : HP → Prop} (hc : c < 4) (hw : w ≤ 12) (hK : KOk w x.2.2.1) (hx : MM h.1 c x) (hQ : ∀ h' : HP, h'.2 = h.2 → MM h'.1 c (mvA 1 x) → Fr (sMvM c) h.1 h'.1 → Q h') : P_X9_steps (nI c) h Q := by
  obtain ⟨fr, wa, K, os⟩ := x
  obtain ⟨hfr, h6, h9, hMK, hMO⟩ := hx
  simp only at hfr h6 h9 hMK hMO hK
  have hic : vp_in (nI c) 4 := n_in hc (by omega)
  have hK0 := hK.2 0
  have h00 : h.1 108 (64 * c + fr) = enc (K 0) := by
    have := hMK 0 (by omega)
    rw [show (fr + 0) % 64 = fr by omega] at this
    exact this
  unfold P_X9_steps
  rw [n_cl (by omega), h6, n64, nI_add, n_cl (by omega), h00]
  have fin : ∀ h1 : HP, h1.2 = h.2 → (∀ b, h1.1 108 b = h.1 108 b) → h1.1 103 c = nI fr → MO h1.1 c (rlN 1 K os) → Fr (sMvM c) h.1 h1.1 → P_X9_steps_j32 78 (nI c) (nI (64 * c + fr)) h1 Q := by
    intro h1 e1 e2 e3 e4 eF
    unfold P_X9_steps_j32
    rw [n_cl (by omega), n_cl (by omega), si_o (by decide), e3, nI_1, n_rem64 (by omega)]
    refine ⟨n_in (by omega) (by omega), hic, hic, hic, hQ _ e1 ⟨?_, ?_, ?_, fun k hk => ?_, ?_⟩ (eF.tr ((Fr.si (Or.inr (Or.inl ⟨rfl, by omega, by omega⟩))).tr ((Fr.si (Or.inl ⟨Or.inl rfl, rfl⟩)).tr (Fr.si (Or.inl ⟨Or.inr rfl, rfl⟩)))))⟩
    · show (fr + 1) % 64 < 64
      omega
    · rw [si_o (by decide), si_s]
      rfl
    · rw [si_s]
      rfl
    · have hk2 : ∀ (z1 z2 : Int32), (si (si (si h1 108 (64 * c + fr) (-1)) 103 c z1) 106 c z2).1 108 (64 * c + ((fr + 1) % 64 + k) % 64) = enc (K (k + 1)) := ?_
      exact hk2 _ _
      intro z1 z2
      rw [si_o (by decide), si_o (by decide), si_1]
      by_cases hk63 : k = 63
      · rw [if_pos ⟨rfl, by omega⟩, hK.1 (k + 1) (by omega), enc_0]
      · rw [if_neg (by intro z; omega), e2, show ((fr + 1) % 64 + k) % 64 = (fr + (k + 1)) % 64 by omega]
        exact hMK (k + 1) (by omega)
    · exact e4.fr (by rw [si_o (by decide), si_o (by decide), si_o (by decide)]) (fun i => by rw [si_o (by decide), si_o (by decide), si_o (by decide)]) (by rw [si_o (by decide), si_o (by decide), si_o (by decide)])
  refine ⟨hic, n_in (by omega) (by omega), fun hz => ?_, fun hz => ⟨n_in (by omega) (by omega), ?_⟩⟩
  · rw [enc_le (by omega)] at hz
    refine fin h rfl (fun _ => rfl) h6 ?_ Fr.rf
    show MO h.1 c (if 2 ≤ K 0 then _ else _)
    rw [if_neg (by omega)]
    exact hMO
  · rw [enc_le (by omega)] at hz
    refine m_release hc hMO fun h1 e1 eO eF => fin h1 e1 (fun b => eF _ _ ?_) ?_ ?_ (eF.mono fun a b z => Or.inr (Or.inr z))
    · rintro (⟨z, -⟩ | ⟨z, -⟩ | ⟨z, -⟩) <;> omega
    · rw [eF _ _ (by rintro (⟨z, -⟩ | ⟨z, -⟩ | ⟨z, -⟩) <;> omega)]
      exact h6
    · show MO h1.1 c (if 2 ≤ K 0 then _ else _)
      rw [if_pos (by omega)]
      exact eO
theorem m_movesTo {c w s : Nat} {x : FMS} {h : HP} {Q : HP → Prop} (hc : c < 4) (hw : w ≤ 12) (hK : KOk w x.2.2.1) (hx : MM h.1 c x) (hs : s < 64) (hQ : ∀ h' : HP, h'.2 = h.2 → MM h'.1 c (mvA s x) → Fr (sMvM c) h.1 h'.1 → Q h') : P_X9_movesTo (nI c) (nI ((x.1 + s) % 64)) h Q := by
  refine lpc1 fun X hX => ?_
  have hic : vp_in (nI c) 4 := n_in hc (by omega)
  have key : ∀ (d t : Nat) (h1 : HP), t + d = s → h1.2 = h.2 → MM h1.1 c (mvA t x) → Fr (sMvM c) h.1 h1.1 → X h1 := by
    intro d
    induction d with
    | zero =>
      intro t h1 ht e1 eM eF
      have ht' : t = s := by omega
      subst ht'
      have hfr : (mvA t x).1 = (x.1 + t) % 64 := by
        unfold mvA
        split
        · rename_i h0
          rw [h0, Nat.add_zero, Nat.mod_eq_of_lt hx.1]
        · rfl
      refine hX _ ⟨hic, fun _ => hQ h1 e1 eM eF, fun hz => absurd ?_ hz⟩
      rw [n_cl (by omega), eM.2.1, hfr]
    | succ d ih =>
      intro t h1 ht e1 eM eF
      have hfr : (mvA t x).1 = (x.1 + t) % 64 := by
        unfold mvA
        split
        · rename_i h0
          rw [h0, Nat.add_zero, Nat.mod_eq_of_lt hx.1]
        · rfl
      refine hX _ ⟨hic, fun hz => ?_, fun _ => ?_⟩
      · rw [n_cl (by omega), eM.2.1, hfr, n_ueq (by omega) (by omega)] at hz
        have := hx.1
        omega
      · refine m_steps hc hw (mvA_ok hK) eM fun h2 g1 gM gF => ?_
        rw [mvA_add hx.1] at gM
        exact ih (t + 1) h2 (by omega) (g1.trans e1) gM (eF.tr gF)
  exact key s 0 h (by omega) rfl hx Fr.rf
theorem ld_le {w : Nat} : ∀ (n : Nat) (K : Nat → Nat), (∀ k, w ≤ k → K k = 0) → w ≤ n → ld n K = ld w K := by
  induction w with
  | zero =>
    intro n K h _
    cases n with
    | zero => rfl
    | succ n => show (if K 0 = 0 then 0 else _) = 0; rw [if_pos (h 0 (by omega))]
  | succ w ih =>
    intro n K h hn
    cases n with
    | zero => omega
    | succ n =>
      show (if K 0 = 0 then 0 else ld n (fun k => K (k + 1)) + 1) = (if K 0 = 0 then 0 else ld w (fun k => K (k + 1)) + 1)
      rw [ih n (fun k => K (k + 1)) (fun k hk => h _ (by omega)) (by omega)]
theorem m_goesOn {c w : Nat} {x : FMS} {h : HP} {Q : HP → Prop} (hc : c < 4) (hw : w ≤ 12) (hK : KOk w x.2.2.1) (hx : MM h.1 c x) (hQ : ∀ h' : HP, h'.2 = h.2 → MM h'.1 c (mvA (ld 12 x.2.2.1) x) → Fr (sMvM c) h.1 h'.1 → Q h') : P_X9_goesOn (nI c) h Q := by
  refine lpc1 fun X hX => ?_
  have hic : vp_in (nI c) 4 := n_in hc (by omega)
  have key : ∀ (d : Nat) (h1 : HP) (y : FMS), h1.2 = h.2 → MM h1.1 c y → KOk w y.2.2.1 → (∀ k, d ≤ k → y.2.2.1 k = 0) → Fr (sMvM c) h.1 h1.1 → mvA (ld d y.2.2.1) y = mvA (ld 12 x.2.2.1) x → X h1 := by
    intro d
    induction d with
    | zero =>
      intro h1 y e1 eM eK e0 eF eq
      have h00 : h1.1 108 (64 * c + y.1) = enc (y.2.2.1 0) := by
        have := eM.2.2.2.1 0 (by omega)
        rw [show (y.1 + 0) % 64 = y.1 by have := eM.1; omega] at this
        exact this
      have hy := eM.1
      refine hX _ ⟨hic, ?_⟩
      rw [n_cl (by omega), eM.2.1, n64, nI_add, n_cl (by omega), h00]
      refine ⟨n_in (by omega) (by omega), fun _ => hQ h1 e1 (by rw [← eq]; exact eM) eF, fun hz => absurd ?_ hz⟩
      rw [e0 0 (by omega), enc_0]
    | succ d ih =>
      intro h1 y e1 eM eK e0 eF eq
      have h00 : h1.1 108 (64 * c + y.1) = enc (y.2.2.1 0) := by
        have := eM.2.2.2.1 0 (by omega)
        rw [show (y.1 + 0) % 64 = y.1 by have := eM.1; omega] at this
        exact this
      have hy := eM.1
      have hK0 := eK.2 0
      refine hX _ ⟨hic, ?_⟩
      rw [n_cl (by omega), eM.2.1, n64, nI_add, n_cl (by omega), h00]
      refine ⟨n_in (by omega) (by omega), fun hz => ?_, fun hz => ?_⟩
      · rw [enc_eq (by omega)] at hz
        refine hQ h1 e1 ?_ eF
        rw [← eq]
        show MM h1.1 c (mvA (if y.2.2.1 0 = 0 then 0 else _) y)
        rw [if_pos hz]
        exact eM
      · rw [enc_eq (by omega)] at hz
        refine m_steps hc hw eK eM fun h2 g1 gM gF => ?_
        refine ih h2 _ (g1.trans e1) gM (mvA_ok eK) (fun k hk => e0 (k + 1) (by omega)) (eF.tr gF) ?_
        rw [← eq, mvA_add eM.1]
        show _ = mvA (if y.2.2.1 0 = 0 then 0 else _) y
        rw [if_neg hz, Nat.add_comm]
        rfl
  exact key w h x rfl hx hK hK.1 Fr.rf (by rw [ld_le 12 _ hK.1 hw])
