/-! Letters: sent, counted, dropped. -/
def sSd (r a b : Nat) : Prop := (a = r ∧ b ≤ 7) ∨ (a = 5 ∧ b = 2) ∨ (a = 4 ∧ b = 0)
theorem k_send {k : Nat} {X : Nat → LT} {i1 i2 : Int32} {h : HP} {Q : Nat → HP → Prop} (hx : CLs h k X) (hk : k < 4) (hQ : ∀ h' : HP, h'.2 = h.2 → h'.1 5 2 = nI (k + 1) → h'.1 4 0 = h.1 4 0 + 1 → (h'.1 (h.2.1 k) 0 = i1 ∧ h'.1 (h.2.1 k) 1 = i2 ∧ h'.1 (h.2.1 k) 2 = -1 ∧ h'.1 (h.2.1 k) 3 = -1 ∧ h'.1 (h.2.1 k) 4 = -1 ∧ h'.1 (h.2.1 k) 5 = -1 ∧ h'.1 (h.2.1 k) 6 = -1 ∧ h'.1 (h.2.1 k) 7 = 0) → Fr (sSd (h.2.1 k)) h.1 h'.1 → Q (h.2.1 k) h') : P_X6_send i1 i2 h Q := by
  obtain ⟨-, h5, hl, -⟩ := hx
  obtain ⟨j, hj, er⟩ := hl.1 k (by omega)
  unfold P_X6_send
  rw [h5, show (5 : Int32) = nI 5 from rfl, n_ule (by omega) (by omega), nI_1]
  refine ⟨fun hz => absurd hz (by omega), fun _ => ?_⟩
  unfold P_X6_send_j18 P_X2_begin
  rw [si_s, show nI (k + 1) - 1 = nI k from nI_m1, n_cl (by omega)]
  refine ⟨n_in (by omega) (by omega), ty_L ⟨j, hj, er⟩, ?_⟩
  show Q (h.2.1 k) _
  have e : (si h 5 2 (nI (k + 1))).2.1 k = h.2.1 k := rfl
  rw [e]
  have hr : 7 ≤ h.2.1 k := by omega
  generalize h.2.1 k = r at *
  refine hQ _ rfl ?_ ?_ ?_ ?_
  · rw [si_o (by decide), si_o (by omega), si_o (by omega), si_o (by omega), si_o (by omega), si_o (by omega), si_o (by omega), si_o (by omega), si_o (by omega), si_s]
  · rw [si_s, si_o (by omega), si_o (by omega), si_o (by omega), si_o (by omega), si_o (by omega), si_o (by omega), si_o (by omega), si_o (by omega), si_o (by decide)]
  · have z : ∀ b (h1 : HP) v, (si h1 4 0 v).1 r b = h1.1 r b := fun b h1 v => si_o (by omega) _
    refine ⟨?_, ?_, ?_, ?_, ?_, ?_, ?_, ?_⟩ <;> rw [z] <;> simp [si_1]
  · have q : ∀ b, b ≤ 7 → sSd r r b := fun b hb => Or.inl ⟨rfl, hb⟩
    exact (Fr.si (Or.inr (Or.inl ⟨rfl, rfl⟩))).tr ((Fr.si (q 0 (by omega))).tr ((Fr.si (q 1 (by omega))).tr ((Fr.si (q 2 (by omega))).tr ((Fr.si (q 3 (by omega))).tr ((Fr.si (q 4 (by omega))).tr ((Fr.si (q 5 (by omega))).tr ((Fr.si (q 6 (by omega))).tr ((Fr.si (q 7 (by omega))).tr (Fr.si (Or.inr (Or.inr ⟨rfl, rfl⟩)))))))))))
theorem CLs.add {h h' : HP} {k : Nat} {X : Nat → LT} {x : LT} (hx : CLs h k X) (hk : k < 4) (h2 : h'.2.1 = h.2.1) (h5 : h'.1 5 2 = nI (k + 1)) (h0 : ∀ a b, 7 ≤ a → a ≤ 31 → (a < h.2.1 k ∨ h.2.1 k + 4 < a) → h'.1 a b = h.1 a b) (hn : CLt h'.1 (h.2.1 k) x) : CLs h' (k + 1) (adX k X x) := by
  obtain ⟨a, b, c, d⟩ := hx
  refine ⟨by omega, h5, by rw [h2]; exact c, fun i hi => ?_⟩
  rw [h2]
  unfold adX
  by_cases hik : i = k
  · subst hik
    rw [if_pos rfl]; exact hn
  · rw [if_neg hik]
    obtain ⟨j, hj, e⟩ := c.1 i (by omega)
    obtain ⟨j', hj', e'⟩ := c.1 k (by omega)
    have hne := c.2 i k (by omega) (by omega)
    exact (d i (by omega)).fr fun a b z1 z2 => h0 a b (by omega) (by omega) (by omega)
theorem MLs.add {g g' : Nat → Nat → Int32} {k : Nat} {X : Nat → LT} {x : LT} (hx : MLs g k X) (hk : k < 4) (hok : ∀ i, i < k → LtOk (X i)) (h5 : g' 78 39 = nI (k + 1)) (h1 : ∀ y, y < 8 * k → g' 111 y = g 111 y) (h2 : ∀ y, y < 32 * k → g' 112 y = g 112 y) (hn : MLt g' k x) : MLs g' (k + 1) (adX k X x) := by
  obtain ⟨a, b, d⟩ := hx
  refine ⟨by omega, h5, fun i hi => ?_⟩
  unfold adX
  by_cases hik : i = k
  · subst hik
    rw [if_pos rfl]; exact hn
  · rw [if_neg hik]
    exact (d i (by omega)).fr (fun a ha => h1 _ (by omega)) (fun a ha => h2 _ (by omega)) (hok i (by omega)).2.2.1
theorem MLs.fr {g g' : Nat → Nat → Int32} {k : Nat} {X : Nat → LT} (hx : MLs g k X) (hok : ∀ i, i < k → LtOk (X i)) (h5 : g' 78 39 = g 78 39) (h1 : ∀ y, g' 111 y = g 111 y) (h2 : ∀ y, g' 112 y = g 112 y) : MLs g' k X := ⟨hx.1, h5.trans hx.2.1, fun i hi => (hx.2.2 i hi).fr (fun a _ => h1 _) (fun a _ => h2 _) (hok i hi).2.2.1⟩
/-- how many letters a class has under way -/
def cnX (c : Nat) (X : Nat → LT) : Nat → Nat
  | 0 => 0
  | n + 1 => cnX c X n + if (X n).1.2.1 = c then 1 else 0
theorem cnX_le {c : Nat} {X : Nat → LT} : ∀ n, cnX c X n ≤ n := by
  intro n
  induction n with
  | zero => exact Nat.le_refl _
  | succ n ih => unfold cnX; split <;> omega
theorem cnX_0 {c : Nat} {X : Nat → LT} : ∀ n, cnX c X n = 0 ↔ ∀ i, i < n → (X i).1.2.1 ≠ c := by
  intro n
  induction n with
  | zero => exact ⟨fun _ i hi => absurd hi (by omega), fun _ => rfl⟩
  | succ n ih =>
    unfold cnX
    constructor
    · intro h i hi
      by_cases hz : (X n).1.2.1 = c
      · rw [if_pos hz] at h; omega
      · by_cases hin : i = n
        · rw [hin]; exact hz
        · exact ih.mp (by omega) i (by omega)
    · intro h
      rw [if_neg (h n (by omega)), ih.mpr fun i hi => h i (by omega)]
theorem k_countOf {c k : Nat} {X : Nat → LT} {h : HP} {Q : Int32 → HP → Prop} (hc : c < 4) (hx : CLs h k X) (hok : ∀ i, i < k → LtOk (X i)) (hQ : Q (nI (cnX c X k)) h) : P_X6_countOf (nI c) h Q := by
  obtain ⟨hk, h5, hl, hX⟩ := hx
  unfold P_X6_countOf
  refine lpc3 fun Y hY => ?_
  have key : ∀ d n, n + d = k → Y (nI (cnX c X n)) (nI n) h := by
    intro d
    induction d with
    | zero =>
      intro n hn
      have : n = k := by omega
      subst this
      refine hY _ _ _ ⟨fun _ => hQ, fun hz => absurd ?_ hz⟩
      rw [h5]; exact Int32.le_refl _
    | succ d ih =>
      intro n hn
      have hi := ih (n + 1) (by omega)
      refine hY _ _ _ ⟨fun hz => ?_, fun _ => ?_⟩
      · rw [h5, n_ule (by omega) (by omega)] at hz; omega
      · have e0 : h.1 (h.2.1 n) 0 = nI (X n).1.2.1 := (hX n (by omega)).2.2.2.2.2.1
        have b0 := (hok n (by omega)).2.1
        rw [n_cl (by omega), e0, n_ueq (by omega) (by omega)]
        refine ⟨n_in (by omega) (by omega), ty_L (hl.1 n (by omega)), fun hz => ?_, fun hz => ?_⟩
        · rw [p_flag, if_pos rfl, nI_1, n0, nI_add]
          unfold cnX at hi
          rw [if_neg hz] at hi
          exact hi
        · rw [p_flag, if_neg (by decide), nI_1, nI_1]
          unfold cnX at hi
          rw [if_pos hz] at hi
          exact hi
  exact key k 0 (by omega)
theorem m_isUnderWay {c k : Nat} {X : Nat → LT} {h : HP} {Q : Int32 → HP → Prop} (hc : c < 4) (hx : MLs h.1 k X) (hok : ∀ i, i < k → LtOk (X i)) (hQ : Q (if cnX c X k = 0 then 0 else 1) h) : P_X9_isUnderWay (nI c) h Q := by
  obtain ⟨hk, h5, hX⟩ := hx
  unfold P_X9_isUnderWay
  refine lpc3 fun Y hY => ?_
  have key : ∀ d n, n + d = k → Y (if cnX c X n = 0 then 0 else 1) (nI n) h := by
    intro d
    induction d with
    | zero =>
      intro n hn
      have : n = k := by omega
      subst this
      refine hY _ _ _ ⟨fun _ => ⟨?_, hQ⟩, fun hz => absurd ?_ hz⟩
      · split
        · exact Or.inl rfl
        · exact Or.inr rfl
      · rw [h5]; exact Int32.le_refl _
    | succ d ih =>
      intro n hn
      have hi := ih (n + 1) (by omega)
      refine hY _ _ _ ⟨fun hz => ?_, fun _ => ?_⟩
      · rw [h5, n_ule (by omega) (by omega)] at hz; omega
      · have e0 : h.1 111 (8 * n + 1) = nI (X n).1.2.1 := (hX n (by omega)).2.1
        have b0 := (hok n (by omega)).2.1
        rw [n8, n_addl (B := 1) (8 * n) 1 rfl, n_cl (by omega), e0, n_ueq (by omega) (by omega), nI_1]
        unfold cnX at hi
        by_cases hcn : cnX c X n = 0
        · rw [if_pos hcn]
          refine ⟨fun hz => absurd rfl hz, fun _ => ⟨n_in (by omega) (by omega), fun hz => ?_, fun hz => ?_⟩⟩
          · rw [if_neg hz, if_pos (by omega)] at hi; exact hi
          · rw [if_pos hz, if_neg (by omega)] at hi; exact hi
        · rw [if_neg hcn]
          refine ⟨fun _ => ?_, fun hz => absurd hz (by decide)⟩
          by_cases hz : (X n).1.2.1 = c
          · rw [if_pos hz, if_neg (by omega)] at hi; exact hi
          · rw [if_neg hz, if_neg (by omega)] at hi; exact hi
  exact key k 0 (by omega)
def sDr (a b : Nat) : Prop := a = 111 ∨ a = 112 ∨ (a = 78 ∧ b = 39)
theorem m_drop {k p : Nat} {X : Nat → LT} {h : HP} {Q : HP → Prop} (hx : MLs h.1 k X) (hok : ∀ i, i < k → LtOk (X i)) (hp : p < k) (hQ : ∀ h' : HP, h'.2 = h.2 → MLs h'.1 (k - 1) (rmX p X) → Fr sDr h.1 h'.1 → Q h') : P_X9_drop (nI p) h Q := by
  obtain ⟨hk, h5, hX⟩ := hx
  unfold P_X9_drop
  rw [h5, n_m1 (by omega), n8, n32]
  refine lpc2 fun Y hY => ?_
  have loop2 : ∀ h1 : HP, h1.2 = h.2 → h1.1 78 39 = nI (k - 1) → (∀ x, h1.1 111 x = if 8 * p ≤ x ∧ x < 8 * (k - 1) then h.1 111 (x + 8) else h.1 111 x) → (∀ x, h1.1 112 x = h.1 112 x) → Fr sDr h.1 h1.1 → Lp2 (fun X_52 (i2_52 : Int32) (h_52 : HP) => (((32 * (h_52.1 78 39)) ≤ i2_52) → Q h_52) ∧ ((¬ (32 * (h_52.1 78 39)) ≤ i2_52) → ((vp_in (i2_52 + 32) 512) ∧ ((vp_in i2_52 512) ∧ (X_52 (i2_52 + 1) (si h_52 112 i2_52.toNatClampNeg (h_52.1 112 (i2_52 + 32).toNatClampNeg))))))) (nI (32 * p)) h1 := by
    intro h1 e1 e39 e111 e112 ef
    refine lpc2 fun Z hZ => ?_
    have key : ∀ d n (h2 : HP), n + d = 32 * (k - 1) → 32 * p ≤ n → h2.2 = h.2 → h2.1 78 39 = nI (k - 1) → (∀ x, h2.1 111 x = if 8 * p ≤ x ∧ x < 8 * (k - 1) then h.1 111 (x + 8) else h.1 111 x) → (∀ x, h2.1 112 x = if 32 * p ≤ x ∧ x < n then h.1 112 (x + 32) else h.1 112 x) → Fr sDr h.1 h2.1 → Z (nI n) h2 := by
      intro d
      induction d with
      | zero =>
        intro n h2 hn hpn g1 g39 g111 g112 gf
        refine hZ _ _ ⟨fun _ => hQ h2 g1 ⟨by omega, g39, fun i hi => ?_⟩ gf, fun hz => absurd ?_ hz⟩
        · unfold rmX
          by_cases hip : i < p
          · rw [if_pos hip]
            exact (hX i (by omega)).fr (fun a ha => by rw [g111, if_neg (by omega)]) (fun a ha => by rw [g112, if_neg (by omega)]) (hok i (by omega)).2.2.1
          · rw [if_neg hip]
            refine (hX (i + 1) (by omega)).fr (fun a ha => ?_) (fun a ha => ?_) (hok (i + 1) (by omega)).2.2.1
            · rw [g111, if_pos (by omega), show 8 * i + a + 8 = 8 * (i + 1) + a by omega]
            · rw [g112, if_pos (by omega), show 32 * i + a + 32 = 32 * (i + 1) + a by omega]
        · rw [g39, n32, n_ule (by omega) (by omega)]; omega
      | succ d ih =>
        intro n h2 hn hpn g1 g39 g111 g112 gf
        refine hZ _ _ ⟨fun hz => ?_, fun _ => ?_⟩
        · rw [g39, n32, n_ule (by omega) (by omega)] at hz; omega
        · rw [n_addl (B := 32) n 32 rfl, n_cl (by omega), n_cl (by omega), nI_1]
          refine ⟨n_in (by omega) (by omega), n_in (by omega) (by omega), ih (n + 1) _ (by omega) (by omega) g1 ((si_o (by decide) _).trans g39) (fun x => (si_o (by decide) _).trans (g111 x)) (fun x => ?_) (gf.tr (Fr.si (Or.inr (Or.inl rfl))))⟩
          by_cases hxn : x = n
          · subst hxn
            rw [si_s, if_pos (by omega), g112, if_neg (by omega)]
          · rw [si_p hxn, g112]
            by_cases h2 : 32 * p ≤ x ∧ x < n
            · rw [if_pos h2, if_pos (by omega)]
            · rw [if_neg h2, if_neg (by omega)]
    exact key (32 * (k - 1) - 32 * p) (32 * p) h1 (by omega) (Nat.le_refl _) e1 e39 e111 (fun x => by rw [if_neg (by omega)]; exact e112 x) ef
  have key : ∀ d n (h2 : HP), n + d = 8 * (k - 1) → 8 * p ≤ n → h2.2 = h.2 → h2.1 78 39 = nI (k - 1) → (∀ x, h2.1 111 x = if 8 * p ≤ x ∧ x < n then h.1 111 (x + 8) else h.1 111 x) → (∀ x, h2.1 112 x = h.1 112 x) → Fr sDr h.1 h2.1 → Y (nI n) h2 := by
    intro d
    induction d with
    | zero =>
      intro n h2 hn hpn g1 g39 g111 g112 gf
      have : n = 8 * (k - 1) := by omega
      subst this
      refine hY _ _ ⟨fun _ => loop2 h2 g1 g39 g111 g112 gf, fun hz => absurd ?_ hz⟩
      rw [g39, n8, n_ule (by omega) (by omega)]; omega
    | succ d ih =>
      intro n h2 hn hpn g1 g39 g111 g112 gf
      refine hY _ _ ⟨fun hz => ?_, fun _ => ?_⟩
      · rw [g39, n8, n_ule (by omega) (by omega)] at hz; omega
      · rw [n_addl (B := 8) n 8 rfl, n_cl (by omega), n_cl (by omega), nI_1]
        refine ⟨n_in (by omega) (by omega), n_in (by omega) (by omega), ih (n + 1) _ (by omega) (by omega) g1 ((si_o (by decide) _).trans g39) (fun x => ?_) (fun x => (si_o (by decide) _).trans (g112 x)) (gf.tr (Fr.si (Or.inl rfl)))⟩
        by_cases hxn : x = n
        · subst hxn
          rw [si_s, if_pos (by omega), g111, if_neg (by omega)]
        · rw [si_p hxn, g111]
          by_cases h2 : 8 * p ≤ x ∧ x < n
          · rw [if_pos h2, if_pos (by omega)]
          · rw [if_neg h2, if_neg (by omega)]
  exact key (8 * (k - 1) - 8 * p) (8 * p) _ (by omega) (Nat.le_refl _) rfl (si_s ..) (fun x => by rw [if_neg (by omega)]; exact si_o (by decide) _) (fun x => si_o (by decide) _) (Fr.si (Or.inr (Or.inr ⟨rfl, rfl⟩)))
theorem m_loseNow {k p : Nat} {X : Nat → LT} {h : HP} {Q : Int32 → HP → Prop} (hx : MLs h.1 k X) (hok : ∀ i, i < k → LtOk (X i)) (hp : p < k) (hQ : ∀ h' : HP, h'.2 = h.2 → MLs h'.1 (k - 1) (rmX p X) → h'.1 80 1 = h.1 80 1 + 1 → Fr (fun a b => sDr a b ∨ (a = 80 ∧ b = 1)) h.1 h'.1 → Q (nI (X p).1.1) h') : P_X9_loseNow (nI p) h Q := by
  have hk := hx.1
  unfold P_X9_loseNow
  rw [n8, n_cl (by omega), (hx.2.2 p hp).1]
  refine ⟨n_in (by omega) (by omega), m_drop hx hok hp fun h1 g1 gm gf => ?_⟩
  have gok : ∀ i, i < k - 1 → LtOk (rmX p X i) := fun i hi => by
    unfold rmX
    split
    · exact hok i (by omega)
    · exact hok (i + 1) (by omega)
  refine hQ _ g1 (gm.fr gok (si_o (by decide) _) (fun y => si_o (by decide) _) (fun y => si_o (by decide) _)) ?_ ((gf.mono fun a b z => Or.inl z).tr (Fr.si (Or.inr ⟨rfl, rfl⟩)))
  rw [si_s, gf _ _ (by rintro (z | z | ⟨z, -⟩) <;> omega)]
