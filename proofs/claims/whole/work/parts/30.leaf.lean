/-! The pure level: small functions, on both sides. -/
theorem si_1 (h : HP) (q j : Nat) (v : Int32) (a b : Nat) : (si h q j v).1 a b = if a = q ∧ b = j then v else h.1 a b := rfl
theorem si_2 (h : HP) (q j : Nat) (v : Int32) : (si h q j v).2 = h.2 := rfl
theorem sr_1 (h : HP) (i r : Nat) : (sr h i r).1 = h.1 := rfl
theorem sr_2 (h : HP) (i r j : Nat) : (sr h i r).2.1 j = if j = i then r else h.2.1 j := rfl
theorem si_s (h : HP) (q j : Nat) (v : Int32) : (si h q j v).1 q j = v := by simp [si_1]
theorem si_o {h : HP} {q j : Nat} {v : Int32} {a : Nat} (ha : a ≠ q) (b : Nat) : (si h q j v).1 a b = h.1 a b := by simp [si_1, ha]
theorem si_p {h : HP} {q j : Nat} {v : Int32} {b : Nat} (hb : b ≠ j) (a : Nat) : (si h q j v).1 a b = h.1 a b := by simp [si_1, hb]
/-- loops: what holds at the head and leads to its end -/
theorem lpc1 {A : Type} {F : (A → Prop) → A → Prop} {a : A} (h : ∀ X : A → Prop, (∀ a, F X a → X a) → X a) : Lp1 F a := h
theorem lpc2 {A B : Type} {F : (A → B → Prop) → A → B → Prop} {a : A} {b : B} (h : ∀ X : A → B → Prop, (∀ a b, F X a b → X a b) → X a b) : Lp2 F a b := h
theorem lpc3 {A B C : Type} {F : (A → B → C → Prop) → A → B → C → Prop} {a : A} {b : B} {c : C} (h : ∀ X : A → B → C → Prop, (∀ a b c, F X a b c → X a b c) → X a b c) : Lp3 F a b c := h
theorem lpc4 {A B C D : Type} {F : (A → B → C → D → Prop) → A → B → C → D → Prop} {a : A} {b : B} {c : C} {d : D} (h : ∀ X : A → B → C → D → Prop, (∀ a b c d, F X a b c d → X a b c d) → X a b c d) : Lp4 F a b c d := h
/-- numbers -/
theorem n0 : (0 : Int32) = nI 0 := rfl
theorem n1 : (1 : Int32) = nI 1 := rfl
theorem n_add (a b : Nat) : nI a + nI b = nI (a + b) := nI_add a b
theorem n_ule {a b : Nat} (ha : a < 2 ^ 31) (hb : b < 2 ^ 31) : (nI a ≤ nI b) = (a ≤ b) := propext (nI_leI ha hb)
theorem n_ult {a b : Nat} (ha : a < 2 ^ 31) (hb : b < 2 ^ 31) : (nI a < nI b) = (a < b) := propext (nI_ltI ha hb)
theorem n_ueq {a b : Nat} (ha : a < 2 ^ 31) (hb : b < 2 ^ 31) : (nI a = nI b) = (a = b) := propext (nI_eq ha hb)
theorem n_and15 {n : Nat} (h : n < 2 ^ 32) : nI n &&& 15 = nI (n % 16) := pk_andN h 4 rfl
theorem n_and63 {n : Nat} (h : n < 2 ^ 32) : nI n &&& 63 = nI (n % 64) := pk_andN h 6 rfl
theorem n_subtn {a b : Nat} (ha : a < 2 ^ 31) (hb : b < 2 ^ 31) : (nI a - nI b).toBitVec.toNat = (a + (2 ^ 32 - b)) % 2 ^ 32 := by
  rw [Int32.toBitVec_sub, BitVec.toNat_sub, pk_tn (by omega), pk_tn (by omega)]
  congr 1
  omega
theorem n_ah {a b : Nat} (ha : a < 64) (hb : b < 2 ^ 31) : (nI b - nI a) &&& 63 = nI ((b + 64 - a) % 64) := by
  rw [pk_and (nI b - nI a) 6 rfl, n_subtn (by omega) (by omega)]
  congr 1
  omega
theorem n_rem {n d : Nat} (hn : n < 2 ^ 31) (h0 : 0 < d) (hd : d < 2 ^ 31) {D : Int32} (hD : D = nI d) : nI n - nI n / D * D = nI (n % d) := by
  subst hD
  exact pk_rem hn h0 hd
theorem n_sub {a b : Nat} (h : b ≤ a) : nI a - nI b = nI (a - b) := pk_sub h
theorem n_ahM {a b : Nat} (ha : a < 64) (hb : b < 2 ^ 30) : ((nI b - nI a) + 64) - ((nI b - nI a) + 64) / 64 * 64 = nI ((b + 64 - a) % 64) := by
  have e : (nI b - nI a) + 64 = nI (b + 64 - a) := by
    rw [show (64 : Int32) = nI 64 from rfl]
    have h1 : nI b - nI a + nI 64 = nI b + nI 64 - nI a := by
      rw [Int32.sub_eq_add_neg, Int32.sub_eq_add_neg, Int32.add_assoc, Int32.add_comm (-nI a), ← Int32.add_assoc]
    rw [h1, nI_add, n_sub (by omega)]
  rw [e]
  exact n_rem (by omega) (by omega) (by omega) rfl
theorem n_cl {n : Nat} (h : n < 2 ^ 31) : (nI n).toNatClampNeg = n := nI_clamp h
theorem n_in {n N : Nat} (h : n < N) (hN : N < 2 ^ 31) : vp_in (nI n) N := vp_in_nI h hN
theorem n_of {x : Int32} (h : ¬ x < 0) : ∃ j : Nat, j < 2 ^ 31 ∧ x = nI j := nI_of h
/-- leaves -/
theorem p_within (a b c : Int32) (h : HP) (Q : Int32 → HP → Prop) : P_X8_within a b c h Q ↔ Q (if a < b ∨ c < a then 0 else 1) h := by
  unfold P_X8_within
  by_cases h1 : a < b <;> by_cases h2 : c < a <;> simp [h1, h2]
theorem p_withinM (a b c : Int32) (h : HP) (Q : Int32 → HP → Prop) : P_X9_within a b c h Q ↔ Q (if a < b ∨ c < a then 0 else 1) h := by
  unfold P_X9_within
  by_cases h1 : a < b <;> by_cases h2 : c < a <;> simp [h1, h2]
theorem p_flag (a : Int32) (h : HP) (Q : Int32 → HP → Prop) : P_X8_flag a h Q ↔ Q (if a = 0 then 0 else 1) h := by
  unfold P_X8_flag
  by_cases h1 : a = 0 <;> simp [h1]
theorem p_slot {n : Nat} (hn : n < 2 ^ 31) (h : HP) (Q : Int32 → HP → Prop) : P_X8_slot (nI n) h Q ↔ Q (nI (n % 16)) h := by
  unfold P_X8_slot
  rw [n_and15 (by omega)]
theorem p_round {n : Nat} (hn : n < 2 ^ 31) (h : HP) (Q : Int32 → HP → Prop) : P_X8_round (nI n) h Q ↔ Q (nI (n % 64)) h := by
  unfold P_X8_round
  rw [n_and63 (by omega)]
theorem p_ahead {a b : Nat} (ha : a < 64) (hb : b < 2 ^ 31) (h : HP) (Q : Int32 → HP → Prop) : P_X8_ahead (nI a) (nI b) h Q ↔ Q (nI ((b + 64 - a) % 64)) h := by
  unfold P_X8_ahead
  rw [n_ah ha hb]
theorem p_aheadM {a b : Nat} (ha : a < 64) (hb : b < 2 ^ 30) (h : HP) (Q : Int32 → HP → Prop) : P_X9_ahead (nI a) (nI b) h Q ↔ Q (nI ((b + 64 - a) % 64)) h := by
  unfold P_X9_ahead
  rw [n_ahM ha hb]
/-- class: isBehind(b, a) -/
theorem p_behind {a b : Nat} (ha : a < 64) (hb : b < 2 ^ 31) (h : HP) (Q : Int32 → HP → Prop) : P_X8_isBehind (nI b) (nI a) h Q ↔ Q (if (b + 64 - a) % 64 < 32 then 0 else 1) h := by
  unfold P_X8_isBehind
  rw [p_ahead ha hb, show (32 : Int32) = nI 32 from rfl, n_ult (by omega) (by omega)]
  by_cases h1 : (b + 64 - a) % 64 < 32 <;> simp [h1]
theorem p_behindM {a b : Nat} (ha : a < 64) (hb : b < 2 ^ 30) (h : HP) (Q : Int32 → HP → Prop) : P_X9_isBehind (nI a) (nI b) h Q ↔ Q (if (b + 64 - a) % 64 < 32 then 0 else 1) h := by
  unfold P_X9_isBehind
  rw [p_aheadM ha hb, show (32 : Int32) = nI 32 from rfl, n_ult (by omega) (by omega)]
  by_cases h1 : (b + 64 - a) % 64 < 32 <;> simp [h1]
theorem p_lastOf {nb w : Nat} (hn : nb < 64) (hw : w ≤ 64) (h : HP) (Q : Int32 → HP → Prop) : P_X9_lastOf (nI nb) (nI w) h Q ↔ Q (nI ((nb + 65 - w) % 64)) h := by
  unfold P_X9_lastOf
  have e : nI nb - nI w + 1 + 64 = nI (nb + 65 - w) := by
    rw [show (64 : Int32) = nI 64 from rfl, show (1 : Int32) = nI 1 from rfl, Int32.add_assoc, nI_add]
    have h1 : nI nb - nI w + nI (1 + 64) = nI nb + nI (1 + 64) - nI w := by
      rw [Int32.sub_eq_add_neg, Int32.sub_eq_add_neg, Int32.add_assoc, Int32.add_comm (-nI w), ← Int32.add_assoc]
    rw [h1, nI_add, n_sub (by omega)]
  rw [e, n_rem (d := 64) (D := 64) (by omega) (by omega) (by omega) rfl]
theorem nx_xor' (a b : Nat) : nI a ^^^ nI b = nI (a ^^^ b) := by
  apply Int32.toBitVec_inj.1
  show BitVec.ofNat 32 a ^^^ BitVec.ofNat 32 b = BitVec.ofNat 32 (a ^^^ b)
  apply BitVec.eq_of_getLsbD_eq
  intro i hi
  simp [hi]
/-- one turn of the check: eight times -/
def tn1 (r : Nat) : Nat := if r < 128 then 2 * r else (2 * r - 256) ^^^ 7
def tnN : Nat → Nat → Nat
  | 0, r => r
  | k + 1, r => tnN k (tn1 r)
theorem tn1_lt : ∀ r, r < 256 → tn1 r < 256 := by decide +kernel
theorem tn1_c : ∀ r, r < 256 → ((nI r >>> (7 &&& 31) &&& 1 = 1) ↔ ¬ r < 128) ∧ (nI r <<< (1 &&& 31) &&& 255) = nI (if r < 128 then 2 * r else 2 * r - 256) ∧ ((nI r <<< (1 &&& 31) &&& 255) ^^^ 7) = nI ((if r < 128 then 2 * r else 2 * r - 256) ^^^ 7) := by decide +kernel
theorem tn1_m : ∀ r, r < 256 → ((nI r < 128) ↔ r < 128) ∧ (nI r * 2 - nI r * 2 / 256 * 256) = nI (if r < 128 then 2 * r else 2 * r - 256) ∧ ((nI r * 2 - nI r * 2 / 256 * 256) ^^^ 7) = nI ((if r < 128 then 2 * r else 2 * r - 256) ^^^ 7) := by decide +kernel
theorem p_turn {a b : Nat} (ha : a < 256) (hb : b < 256) {h : HP} {Q : Int32 → HP → Prop} (hQ : Q (nI (tnN 8 (a ^^^ b))) h) : P_X8_turn (nI a) (nI b) h Q := by
  refine lpc3 fun X hX => ?_
  have hab : a ^^^ b < 256 := Nat.xor_lt_two_pow (n := 8) ha hb
  have key : ∀ n k r, k + n = 8 → r < 256 → Q (nI (tnN n r)) h → X (nI r) (nI k) h := by
    intro n
    induction n with
    | zero =>
      intro k r hk hr hq
      refine hX _ _ _ ⟨fun _ => hq, fun hc => absurd ?_ hc⟩
      rw [show (8 : Int32) = nI 8 from rfl, n_ule (by omega) (by omega)]
      omega
    | succ n ih =>
      intro k r hk hr hq
      obtain ⟨h1, h2, h3⟩ := tn1_c r hr
      refine hX _ _ _ ⟨fun hc => absurd hc ?_, fun _ => ⟨fun hc => ?_, fun hc => ?_⟩⟩
      · rw [show (8 : Int32) = nI 8 from rfl, n_ule (by omega) (by omega)]
        omega
      · rw [h1] at hc
        have hr' : r < 128 := Classical.not_not.mp hc
        rw [h2, if_pos hr', show (1 : Int32) = nI 1 from rfl, nI_add]
        refine ih (k + 1) _ (by omega) (by omega) ?_
        have : tn1 r = 2 * r := if_pos hr'
        rw [← this]
        exact hq
      · rw [h1] at hc
        rw [h3, if_neg hc, show (1 : Int32) = nI 1 from rfl, nI_add]
        have : tn1 r = (2 * r - 256) ^^^ 7 := if_neg hc
        rw [← this]
        exact ih (k + 1) _ (by omega) (tn1_lt r hr) hq
  rw [nx_xor']
  exact key 8 0 _ rfl hab hQ
theorem p_turnM {a b : Nat} (ha : a < 256) (hb : b < 256) {h : HP} {Q : Int32 → HP → Prop} (hQ : Q (nI (tnN 8 (a ^^^ b))) h) : P_X9_turned (nI a) (nI b) h Q := by
  refine lpc3 fun X hX => ?_
  have hab : a ^^^ b < 256 := Nat.xor_lt_two_pow (n := 8) ha hb
  have key : ∀ n k r, k + n = 8 → r < 256 → Q (nI (tnN n r)) h → X (nI r) (nI k) h := by
    intro n
    induction n with
    | zero =>
      intro k r hk hr hq
      refine hX _ _ _ ⟨fun _ => hq, fun hc => absurd ?_ hc⟩
      rw [show (8 : Int32) = nI 8 from rfl, n_ule (by omega) (by omega)]
      omega
    | succ n ih =>
      intro k r hk hr hq
      obtain ⟨h1, h2, h3⟩ := tn1_m r hr
      refine hX _ _ _ ⟨fun hc => absurd hc ?_, fun _ => ⟨fun hc => ⟨fun _ => ?_, fun hz => absurd rfl hz⟩, fun hc => ⟨fun hz => absurd hz (by decide), fun _ => ?_⟩⟩⟩
      · rw [show (8 : Int32) = nI 8 from rfl, n_ule (by omega) (by omega)]
        omega
      · rw [h1] at hc
        rw [h2, if_pos hc, show (1 : Int32) = nI 1 from rfl, nI_add]
        refine ih (k + 1) _ (by omega) (by omega) ?_
        have : tn1 r = 2 * r := if_pos hc
        rw [← this]
        exact hq
      · rw [h1] at hc
        rw [h3, if_neg hc, show (1 : Int32) = nI 1 from rfl, nI_add]
        have : tn1 r = (2 * r - 256) ^^^ 7 := if_neg hc
        rw [← this]
        exact ih (k + 1) _ (by omega) (tn1_lt r hr) hq
  rw [nx_xor']
  exact key 8 0 _ rfl hab hQ
theorem tnN_lt : ∀ k r, r < 256 → tnN k r < 256 := by
  intro k
  induction k with
  | zero => exact fun r h => h
  | succ k ih => exact fun r h => ih _ (tn1_lt r h)
/-- the check of a sub-frame -/
def ckN (c nb v l : Nat) : Nat := tnN 8 (tnN 8 (tnN 8 (tnN 8 (tnN 8 c ^^^ nb) ^^^ (v / 256)) ^^^ (v % 256)) ^^^ l)
theorem x8lt {a b : Nat} (ha : a < 256) (hb : b < 256) : a ^^^ b < 256 := Nat.xor_lt_two_pow (n := 8) ha hb
theorem n_div256 {v : Nat} (h : v < 2 ^ 31) : nI v / 256 = nI (v / 256) := pk_div (d := 256) h (by omega) (by omega)
theorem n_rem256 {v : Nat} (h : v < 2 ^ 31) : nI v - nI v / 256 * 256 = nI (v % 256) := pk_rem (d := 256) h (by omega) (by omega)
theorem n_rem256' {v : Nat} (h : v < 2 ^ 31) : nI v - nI (v / 256) * 256 = nI (v % 256) := by
  rw [← n_div256 h]
  exact n_rem256 h
theorem p_check {c nb v l : Nat} (hc : c < 256) (hn : nb < 256) (hv : v < 65536) (hl : l < 256) {h : HP} {Q : Int32 → HP → Prop} (hQ : Q (nI (ckN c nb v l)) h) : P_X8_checkOf (nI c) (nI nb) (nI v) (nI l) h Q := by
  unfold P_X8_checkOf
  rw [n_div256 (by omega), n_rem256' (by omega)]
  refine p_turn (a := 0) (by omega) hc ?_
  rw [Nat.zero_xor]
  refine p_turn (tnN_lt 8 _ hc) hn ?_
  refine p_turn (tnN_lt 8 _ (x8lt (tnN_lt 8 _ hc) hn)) (by omega) ?_
  refine p_turn (tnN_lt 8 _ (x8lt (tnN_lt 8 _ (x8lt (tnN_lt 8 _ hc) hn)) (by omega))) (by omega) ?_
  exact p_turn (tnN_lt 8 _ (x8lt (tnN_lt 8 _ (x8lt (tnN_lt 8 _ (x8lt (tnN_lt 8 _ hc) hn)) (by omega))) (by omega))) hl hQ
theorem p_checkM {c nb v l : Nat} (hc : c < 256) (hn : nb < 256) (hv : v < 65536) (hl : l < 256) {h : HP} {Q : Int32 → HP → Prop} (hQ : Q (nI (ckN c nb v l)) h) : P_X9_checkOf (nI c) (nI nb) (nI v) (nI l) h Q := by
  unfold P_X9_checkOf
  rw [n_div256 (by omega), n_rem256' (by omega)]
  refine p_turnM (a := 0) (by omega) hc ?_
  rw [Nat.zero_xor]
  refine p_turnM (tnN_lt 8 _ hc) hn ?_
  refine p_turnM (tnN_lt 8 _ (x8lt (tnN_lt 8 _ hc) hn)) (by omega) ?_
  refine p_turnM (tnN_lt 8 _ (x8lt (tnN_lt 8 _ (x8lt (tnN_lt 8 _ hc) hn)) (by omega))) (by omega) ?_
  exact p_turnM (tnN_lt 8 _ (x8lt (tnN_lt 8 _ (x8lt (tnN_lt 8 _ (x8lt (tnN_lt 8 _ hc) hn)) (by omega))) (by omega))) hl hQ
