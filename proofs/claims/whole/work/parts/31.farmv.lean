/-! The far end: what is released; moves of FROM. -/
/-- what was released of a class: how many are kept, which, and how many in all -/
abbrev OS : Type := Nat × (Nat → Int32) × Int32
def putO (v : Int32) (o : Nat → Int32) : Nat → Int32 := fun i => if i = 0 then v else o (i - 1)
def relO (v : Int32) (s : OS) : OS := (min (s.1 + 1) 10, putO v s.2.1, s.2.2 + 1)
/-- contents are numbers: 0 nothing, 1 had, n + 1 the value n -/
def enc (k : Nat) : Int32 := nI k - 1
theorem enc_0 : enc 0 = -1 := by decide
theorem enc_1 : enc 1 = 0 := by decide
theorem enc_s (n : Nat) : enc (n + 1) = nI n := nI_pred n
theorem enc_le {k : Nat} (h : k < 2 ^ 31) : (enc k ≤ 0) ↔ k < 2 := by
  cases k with
  | zero => rw [enc_0]; decide
  | succ n =>
    rw [enc_s, n0, n_ule (by omega) (by omega)]
    omega
theorem enc_eq {k : Nat} (h : k < 2 ^ 31) : (enc k = -1) ↔ k = 0 := by
  cases k with
  | zero => rw [enc_0]; decide
  | succ n =>
    rw [enc_s]
    constructor
    · intro e
      have h1 := congrArg Int32.toInt e
      rw [nI_toInt (by omega)] at h1
      simp at h1 <;> omega
    · omega
def rlN : Nat → (Nat → Nat) → OS → OS
  | 0, _, s => s
  | k + 1, K, s => if 2 ≤ K k then relO (enc (K k)) (rlN k K s) else rlN k K s
theorem rl_shift : ∀ (n m : Nat) (K : Nat → Nat) (s : OS), rlN (n + m) K s = rlN m (fun k => K (k + n)) (rlN n K s) := by
  intro n m
  induction m with
  | zero => intro K s; rfl
  | succ m ih =>
    intro K s
    show (if 2 ≤ K (n + m) then relO (enc (K (n + m))) (rlN (n + m) K s) else rlN (n + m) K s) = (if 2 ≤ K (m + n) then relO (enc (K (m + n))) (rlN m (fun k => K (k + n)) (rlN n K s)) else rlN m (fun k => K (k + n)) (rlN n K s))
    rw [ih, Nat.add_comm m n]
theorem rl_zero {K : Nat → Nat} (n : Nat) : ∀ (m : Nat) (s : OS), (∀ k, n ≤ k → K k = 0) → n ≤ m → rlN m K s = rlN n K s := by
  intro m
  induction m with
  | zero => intro s h hm; rw [show n = 0 by omega]
  | succ m ih =>
    intro s h hm
    by_cases e : n = m + 1
    · rw [e]
    · show (if 2 ≤ K m then _ else _) = _
      rw [h m (by omega), if_neg (by omega)]
      exact ih s h (by omega)
def Fr (S : Nat → Nat → Prop) (f f' : Nat → Nat → Int32) : Prop := ∀ a b, ¬ S a b → f' a b = f a b
theorem Fr.rf {S : Nat → Nat → Prop} {f : Nat → Nat → Int32} : Fr S f f := fun _ _ _ => rfl
theorem Fr.tr {S : Nat → Nat → Prop} {f g h : Nat → Nat → Int32} (h1 : Fr S f g) (h2 : Fr S g h) : Fr S f h := fun a b n => (h2 a b n).trans (h1 a b n)
theorem Fr.mono {S T : Nat → Nat → Prop} {f g : Nat → Nat → Int32} (h : Fr S f g) (hST : ∀ a b, S a b → T a b) : Fr T f g := fun a b n => h a b (fun z => n (hST a b z))
theorem Fr.si {S : Nat → Nat → Prop} {h : HP} {q j : Nat} {v : Int32} (hS : S q j) : Fr S h.1 (si h q j v).1 := fun a b n => by
  rw [si_1, if_neg]
  rintro ⟨rfl, rfl⟩
  exact n hS
/-- class: what was released of the far end F -/
def CO (f : Nat → Nat → Int32) (F : Nat) (s : OS) : Prop := s.1 ≤ 10 ∧ f (F + 1) 1 = nI s.1 ∧ (∀ i, i < s.1 → f (F + 2) i = s.2.1 i) ∧ f 4 4 = s.2.2
def sRel (F a b : Nat) : Prop := (a = F + 1 ∧ b = 1) ∨ a = F + 2 ∨ (a = 4 ∧ b = 4)
theorem nI_m1 {n : Nat} : nI (n + 1) - 1 = nI n := nI_pred n
theorem k_put {F : Nat} {v : Int32} {h : HP} {Q : HP → Prop} (hQ : ∀ h' : HP, h'.2 = h.2 → (∀ i, i < 10 → h'.1 (F + 1) i = if i = 0 then v else h.1 (F + 1) (i - 1)) → (h'.1 F 1 = if (10 : Int32) ≤ h.1 F 1 then h.1 F 1 else h.1 F 1 + 1) → (∀ a b, ¬ (a = F ∧ b = 1) → a ≠ F + 1 → h'.1 a b = h.1 a b) → Q h') : P_X4_put F v h Q := by
  refine lpc2 fun X hX => ?_
  have key : ∀ n (h1 : HP), n ≤ 9 → h1.2 = h.2 → (∀ i, n < i → i < 10 → h1.1 (F + 1) i = h.1 (F + 1) (i - 1)) → (∀ i, i ≤ n → h1.1 (F + 1) i = h.1 (F + 1) i) → (∀ a b, a ≠ F + 1 → h1.1 a b = h.1 a b) → X (nI n) h1 := by
    intro n
    induction n with
    | zero =>
      intro h1 _ e1 e2 e3 e4
      refine hX _ _ ⟨fun _ => ?_, fun hc => absurd ?_ hc⟩
      · have hF : (si h1 (F + 1) 0 v).1 F 1 = h.1 F 1 := by rw [si_o (by omega), e4 _ _ (by omega)]
        rw [hF]
        refine ⟨fun hc => ?_, fun hc => ?_⟩
        · refine hQ _ e1 (fun i hi => ?_) ?_ (fun a b n1 n2 => ?_)
          · rw [si_1]
            by_cases hi0 : i = 0
            · simp [hi0]
            · rw [if_neg (by simp [hi0]), if_neg hi0]
              exact e2 i (by omega) hi
          · rw [hF, if_pos hc]
          · rw [si_o n2, e4 _ _ n2]
        · refine hQ _ e1 (fun i hi => ?_) ?_ (fun a b n1 n2 => ?_)
          · rw [si_o (by omega), si_1]
            by_cases hi0 : i = 0
            · simp [hi0]
            · rw [if_neg (by simp [hi0]), if_neg hi0]
              exact e2 i (by omega) hi
          · rw [si_s, if_neg hc]
          · rw [si_1, if_neg n1, si_o n2, e4 _ _ n2]
      · decide
    | succ n ih =>
      intro h1 hn e1 e2 e3 e4
      have hs : nI (n + 1) - 1 = nI n := nI_pred n
      refine hX _ _ ⟨fun hc => absurd hc ?_, fun _ => ?_⟩
      · rw [n0, n_ule (by omega) (by omega)]
        omega
      · rw [hs, n_cl (by omega), n_cl (by omega), show nI (n + 1) + (-1) = nI n from pk_m1 n]
        refine ⟨n_in (by omega) (by omega), n_in (by omega) (by omega), ih _ (by omega) e1 (fun i h5 h6 => ?_) (fun i h5 => ?_) (fun a b h5 => ?_)⟩
        · rw [si_1]
          by_cases hi : i = n + 1
          · subst hi
            rw [if_pos ⟨rfl, rfl⟩, e3 n (by omega)]
            rfl
          · rw [if_neg (by simp [hi])]
            exact e2 i (by omega) h6
        · rw [si_p (by omega)]
          exact e3 i (by omega)
        · rw [si_o h5]
          exact e4 a b h5
  exact key 9 h (by omega) rfl (fun i h1 h2 => absurd h1 (by omega)) (fun _ _ => rfl) (fun _ _ _ => rfl)
theorem k_release {F : Nat} {v : Int32} {h : HP} {Q : HP → Prop} {s : OS} (hF : 40 < F) (hx : CO h.1 F s) (hQ : ∀ h' : HP, h'.2 = h.2 → CO h'.1 F (relO v s) → Fr (sRel F) h.1 h'.1 → Q h') : P_X1_release F v h Q := by
  obtain ⟨h1, h2, h3, h4⟩ := hx
  refine k_put fun h' e1 e2 e3 e4 => ?_
  refine hQ _ e1 ⟨Nat.min_le_right _ _, ?_, fun i hi => ?_, ?_⟩ (fun a b n => ?_)
  · rw [si_o (by omega), e3, h2]
    by_cases hc : 10 ≤ s.1
    · rw [if_pos (show (10 : Int32) ≤ nI s.1 from nI_le hc (by omega))]
      congr 1
      show _ = min (s.1 + 1) 10
      omega
    · rw [if_neg (show ¬ (10 : Int32) ≤ nI s.1 from nI_ge (b := 10) (by omega) (by omega)), nI_1]
      congr 1
      show _ = min (s.1 + 1) 10
      omega
  · have hi' : i < 10 := Nat.lt_of_lt_of_le hi (Nat.min_le_right _ _)
    rw [si_o (by omega), e2 i hi']
    show _ = if i = 0 then v else s.2.1 (i - 1)
    by_cases hi0 : i = 0
    · rw [if_pos hi0, if_pos hi0]
    · rw [if_neg hi0, if_neg hi0]
      have : i < min (s.1 + 1) 10 := hi
      exact h3 (i - 1) (by omega)
  · rw [si_s, e4 4 4 (by omega) (by omega), h4]
    rfl
  · have n1 : ¬ (a = F + 1 ∧ b = 1) := fun z => n (Or.inl z)
    have n2 : a ≠ F + 1 + 1 := fun z => n (Or.inr (Or.inl z))
    have n3 : ¬ (a = 4 ∧ b = 4) := fun z => n (Or.inr (Or.inr z))
    rw [si_1, if_neg n3, e4 a b n1 n2]
/-- FROM, WAITED, what is held by places from FROM on, what was released -/
abbrev FMS : Type := Nat × Nat × (Nat → Nat) × OS
def mvA (s : Nat) (x : FMS) : FMS := if s = 0 then x else ((x.1 + s) % 64, 0, (fun k => x.2.2.1 (k + s)), rlN s x.2.2.1 x.2.2.2)
def KOk (w : Nat) (K : Nat → Nat) : Prop := (∀ k, w ≤ k → K k = 0) ∧ ∀ k, K k ≤ 2000
theorem KOk.sh {w : Nat} {K : Nat → Nat} (h : KOk w K) (s : Nat) : KOk w (fun k => K (k + s)) := ⟨fun k hk => h.1 _ (by omega), fun k => h.2 _⟩
theorem mvA_ok {w s : Nat} {x : FMS} (h : KOk w x.2.2.1) : KOk w (mvA s x).2.2.1 := by
  unfold mvA
  split
  · exact h
  · exact h.sh s
theorem mvA_add {s t : Nat} {x : FMS} (hx : x.1 < 64) : mvA t (mvA s x) = mvA (s + t) x := by
  by_cases hs : s = 0
  · subst hs
    rw [Nat.zero_add]
    unfold mvA
    rfl
  · by_cases ht : t = 0
    · subst ht
      rfl
    · unfold mvA
      rw [if_neg hs, if_neg ht, if_neg (by omega)]
      refine Prod.ext ?_ (Prod.ext rfl (Prod.ext ?_ ?_))
      · show ((x.1 + s) % 64 + t) % 64 = (x.1 + (s + t)) % 64
        omega
      · funext k
        show x.2.2.1 (k + t + s) = x.2.2.1 (k + (s + t))
        rw [show k + t + s = k + (s + t) by omega]
      · show rlN t (fun k => x.2.2.1 (k + s)) (rlN s x.2.2.1 x.2.2.2) = rlN (s + t) x.2.2.1 x.2.2.2
        rw [rl_shift]
def CK (f : Nat → Nat → Int32) (F fr : Nat) (K : Nat → Nat) : Prop := ∀ k, k < 16 → f (F + 3) ((fr + k) % 16) = enc (K k)
def CM (f : Nat → Nat → Int32) (F : Nat) (x : FMS) : Prop := x.1 < 64 ∧ f F 6 = nI x.1 ∧ f F 9 = nI x.2.1 ∧ CK f F x.1 x.2.2.1 ∧ CO f F x.2.2.2
def sMv (F a b : Nat) : Prop := (a = F ∧ (b = 6 ∨ b = 9)) ∨ a = F + 3 ∨ sRel F a b
theorem CO.fr {f f' : Nat → Nat → Int32} {F : Nat} {s : OS} (h : CO f F s) (h1 : f' (F + 1) 1 = f (F + 1) 1) (h2 : ∀ i, f' (F + 2) i = f (F + 2) i) (h3 : f' 4 4 = f 4 4) : CO f' F s := ⟨h.1, by rw [h1]; exact h.2.1, fun i hi => by rw [h2]; exact h.2.2.1 i hi, by rw [h3]; exact h.2.2.2⟩
theorem k_keptAt {F fr : Nat} {K : Nat → Nat} {h : HP} {Q : Int32 → HP → Prop} {p : Nat} (hfr : fr < 64) (h6 : h.1 F 6 = nI fr) (hK : CK h.1 F fr K) (hp : p < 16) (hQ : Q (enc (K p)) h) : P_X1_keptAt F (nI p) h Q := by
  unfold P_X1_keptAt
  rw [h6, nI_add, p_slot (by omega), n_cl (by omega), hK p hp]
  exact ⟨n_in (by omega) (by omega), hQ⟩
theorem k_moveFrom {F w s : Nat} {x : FMS} {h : HP} {Q : HP → Prop} (hF : 40 < F) (hw : w ≤ 12) (h4 : h.1 F 4 = nI w) (hK : KOk w x.2.2.1) (hx : CM h.1 F x) (hs : s ≤ 64) (hQ : ∀ h' : HP, h'.2 = h.2 → CM h'.1 F (mvA s x) → Fr (sMv F) h.1 h'.1 → Q h') : P_X1_moveFrom F (nI s) h Q := by
  obtain ⟨fr, wa, K, os⟩ := x
  obtain ⟨hfr, h6, h9, hCK, hCO⟩ := hx
  simp only at hfr h6 h9 hCK hCO hK
  refine ⟨fun hc => ?_, fun hc => ?_⟩
  · have hs0 : 0 < s := by
      rw [n0, n_ult (by omega) (by omega)] at hc
      exact hc
    refine lpc2 fun X hX => ?_
    have fin : ∀ (n : Nat) (h1 : HP), n = min s w → h1.2 = h.2 → CO h1.1 F (rlN n K os) → (∀ k, k < n → h1.1 (F + 3) ((fr + k) % 16) = -1) → (∀ k, n ≤ k → k < 16 → h1.1 (F + 3) ((fr + k) % 16) = enc (K k)) → h1.1 F 6 = nI fr → Fr (sMv F) h.1 h1.1 → P_X1_moveFrom_j62 F (nI s) h1 Q := by
      intro n h1 hn e1 eO e2 e3 e6 eF
      unfold P_X1_moveFrom_j62
      rw [e6, nI_add, p_round (by omega)]
      refine hQ _ e1 ?_ (eF.tr ((Fr.si (Or.inl ⟨rfl, Or.inl rfl⟩)).tr (Fr.si (Or.inl ⟨rfl, Or.inr rfl⟩))))
      have hmv : mvA s (fr, wa, K, os) = ((fr + s) % 64, 0, (fun k => K (k + s)), rlN s K os) := if_neg (by omega)
      rw [hmv]
      refine ⟨?_, ?_, ?_, fun k hk => ?_, ?_⟩
      · show (fr + s) % 64 < 64
        omega
      · rw [si_p (by decide), si_s]
      · rw [si_s]
        rfl
      · rw [si_o (by omega), si_o (by omega)]
        show h1.1 (F + 3) (((fr + s) % 64 + k) % 16) = enc (K (k + s))
        have e7 : ((fr + s) % 64 + k) % 16 = (fr + (s + k) % 16) % 16 := by omega
        rw [e7]
        by_cases hsk : s + k < 16
        · rw [Nat.mod_eq_of_lt hsk]
          by_cases hnk : n ≤ s + k
          · rw [e3 _ hnk hsk, Nat.add_comm k s]
          · rw [e2 _ (by omega), hK.1 (k + s) (by omega), enc_0]
        · rw [hK.1 (k + s) (by omega), enc_0]
          by_cases hnk : n ≤ (s + k) % 16
          · rw [e3 _ hnk (by omega), hK.1 _ (by omega), enc_0]
          · exact e2 _ (by omega)
      · have e8 : rlN s K os = rlN n K os := by
          by_cases hsw : s ≤ w
          · rw [show n = s by omega]
          · rw [show n = w by omega]
            exact rl_zero w s os hK.1 (by omega)
        show CO _ F (rlN s K os)
        rw [e8]
        exact eO.fr (by rw [si_o (by omega), si_o (by omega)]) (fun i => by rw [si_o (by omega), si_o (by omega)]) (by rw [si_o (by omega), si_o (by omega)])
    have key : ∀ (d n : Nat) (h1 : HP), n + d = min s w → h1.2 = h.2 → CO h1.1 F (rlN n K os) → (∀ k, k < n → h1.1 (F + 3) ((fr + k) % 16) = -1) → (∀ k, n ≤ k → k < 16 → h1.1 (F + 3) ((fr + k) % 16) = enc (K k)) → h1.1 F 6 = nI fr → h1.1 F 4 = nI w → Fr (sMv F) h.1 h1.1 → X (nI n) h1 := by
      intro d
      induction d with
      | zero =>
        intro n h1 hn e1 eO e2 e3 e6 e4 eF
        refine hX _ _ ⟨fun _ => fin n h1 hn e1 eO e2 e3 e6 eF, fun hc1 => ⟨fun _ => fin n h1 hn e1 eO e2 e3 e6 eF, fun hc2 => ?_⟩⟩
        rw [n_ule (by omega) (by omega)] at hc1
        rw [e4, n_ule (by omega) (by omega)] at hc2
        omega
      | succ d ih =>
        intro n h1 hn e1 eO e2 e3 e6 e4 eF
        refine hX _ _ ⟨fun hc1 => ?_, fun _ => ⟨fun hc2 => ?_, fun _ => ?_⟩⟩
        · rw [n_ule (by omega) (by omega)] at hc1
          omega
        · rw [e4, n_ule (by omega) (by omega)] at hc2
          omega
        · rw [e6, nI_add, p_slot (by omega), n_cl (by omega), e3 n (Nat.le_refl _) (by omega)]
          have hin : vp_in (nI ((fr + n) % 16)) 16 := n_in (by omega) (by omega)
          have nxt : ∀ h2 : HP, h2.2 = h.2 → CO h2.1 F (rlN (n + 1) K os) → (∀ b, h2.1 (F + 3) b = h1.1 (F + 3) b) → h2.1 F 6 = nI fr → h2.1 F 4 = nI w → Fr (sMv F) h.1 h2.1 → X (nI n + 1) (si h2 (F + 3) ((fr + n) % 16) (-1)) := by
            intro h2 g1 gO g3 g6 g4 gF
            rw [nI_1]
            refine ih (n + 1) _ (by omega) g1 (gO.fr (by rw [si_o (by omega)]) (fun i => by rw [si_o (by omega)]) (by rw [si_o (by omega)])) (fun k hk => ?_) (fun k hk hk16 => ?_) (by rw [si_o (by omega)]; exact g6) (by rw [si_o (by omega)]; exact g4) (gF.tr (Fr.si (Or.inr (Or.inl rfl))))
            · rw [si_1]
              by_cases hkn : k = n
              · rw [if_pos ⟨rfl, by rw [hkn]⟩]
              · rw [if_neg (by intro z; omega), g3]
                exact e2 k (by omega)
            · rw [si_1, if_neg (by intro z; omega), g3]
              exact e3 k (by omega) hk16
          refine ⟨hin, fun hc => ⟨hin, ?_⟩, fun hc => ⟨hin, ?_⟩⟩
          · rw [enc_le (by have := hK.2 n; omega)] at hc
            exact nxt h1 e1 (by show CO _ F (if 2 ≤ K n then _ else _); rw [if_neg (by omega)]; exact eO) (fun _ => rfl) e6 e4 eF
          · rw [enc_le (by have := hK.2 n; omega)] at hc
            refine k_release hF eO fun h2 g1 gO gF => ⟨hin, ?_⟩
            refine nxt h2 (g1.trans e1) (by show CO _ F (if 2 ≤ K n then _ else _); rw [if_pos (by omega)]; exact gO) (fun b => gF _ _ ?_) ?_ ?_ (eF.tr (gF.mono fun a b z => Or.inr (Or.inr z)))
            · rintro (⟨z, -⟩ | z | ⟨z, -⟩) <;> omega
            · rw [gF _ _ (by rintro (⟨z, -⟩ | z | ⟨z, -⟩) <;> omega)]
              exact e6
            · rw [gF _ _ (by rintro (⟨z, -⟩ | z | ⟨z, -⟩) <;> omega)]
              exact e4
    exact key (min s w) 0 h (by omega) rfl hCO (fun k hk => absurd hk (by omega)) (fun k _ hk => hCK k hk) h6 h4 Fr.rf
  · have hs0 : s = 0 := by
      rw [n0, n_ult (by omega) (by omega)] at hc
      omega
    subst hs0
    exact hQ h rfl ⟨hfr, h6, h9, hCK, hCO⟩ Fr.rf
theorem k_moveFromN {F : Nat} {i : Int32} {h : HP} {Q : HP → Prop} (hi : ¬ 0 < i) (hQ : Q h) : P_X1_moveFrom F i h Q := ⟨fun hc => absurd hc hi, fun _ => hQ⟩
/-- how many are due one behind the other -/
def ld : Nat → (Nat → Nat) → Nat
  | 0, _ => 0
  | n + 1, K => if K 0 = 0 then 0 else ld n (fun k => K (k + 1)) + 1
theorem k_moveOn {F w : Nat} {x : FMS} {h : HP} {Q : HP → Prop} (hF : 40 < F) (hw : w ≤ 12) (h4 : h.1 F 4 = nI w) (hK : KOk w x.2.2.1) (hx : CM h.1 F x) (hQ : ∀ h' : HP, h'.2 = h.2 → CM h'.1 F (mvA (ld 12 x.2.2.1) x) → Fr (sMv F) h.1 h'.1 → Q h') : P_X1_moveOn F h Q := by
  refine lpc2 fun X hX => ?_
  have key : ∀ (d n : Nat) (h1 : HP) (y : FMS), n + d = 12 → h1.2 = h.2 → CM h1.1 F y → KOk w y.2.2.1 → h1.1 F 4 = nI w → Fr (sMv F) h.1 h1.1 → mvA (ld d y.2.2.1) y = mvA (ld 12 x.2.2.1) x → X (nI n) h1 := by
    intro d
    induction d with
    | zero =>
      intro n h1 y hn e1 eM eK e4 eF eq
      refine hX _ _ ⟨fun _ => hQ h1 e1 (by rw [← eq]; exact eM) eF, fun hc => absurd ?_ hc⟩
      rw [show (12 : Int32) = nI 12 from rfl, n_ule (by omega) (by omega)]
      omega
    | succ d ih =>
      intro n h1 y hn e1 eM eK e4 eF eq
      refine hX _ _ ⟨fun hc => ?_, fun _ => ?_⟩
      · rw [show (12 : Int32) = nI 12 from rfl, n_ule (by omega) (by omega)] at hc
        omega
      · refine k_keptAt (p := 0) eM.1 eM.2.1 eM.2.2.2.1 (by omega) ⟨fun hc => ?_, fun hc => ?_⟩
        · rw [enc_eq (by have := eK.2 0; omega)] at hc
          refine hQ h1 e1 ?_ eF
          rw [← eq]
          show CM h1.1 F (mvA (if y.2.2.1 0 = 0 then 0 else _) y)
          rw [if_pos hc]
          exact eM
        · rw [enc_eq (by have := eK.2 0; omega)] at hc
          refine k_moveFrom (s := 1) hF hw e4 eK eM (by omega) fun h2 g1 gM gF => ?_
          rw [nI_1]
          refine ih (n + 1) h2 _ (by omega) (g1.trans e1) gM (mvA_ok eK) ?_ (eF.tr gF) ?_
          · rw [gF _ _ (by rintro (⟨z, z' | z'⟩ | z | ⟨z, -⟩ | z | ⟨z, -⟩) <;> omega)]
            exact e4
          · rw [← eq, mvA_add eM.1]
            show _ = mvA (if y.2.2.1 0 = 0 then 0 else _) y
            rw [if_neg hc, Nat.add_comm]
            rfl
  exact key 12 0 h x rfl rfl hx hK h4 Fr.rf rfl
