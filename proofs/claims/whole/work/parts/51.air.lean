/-! The air: what is left of the turn, on both sides. -/
theorem rem_bd {t : Int32} {d : Nat} (h0 : 0 < d) (hd : d < 2 ^ 20) : -(d : Int) < (t - t / nI d * nI d).toInt ∧ (t - t / nI d * nI d).toInt < d := by
  have hdn : (nI d).toInt = (d : Int) := Int32.toInt_ofNat_of_lt (by omega)
  have b1 := Int32.le_toInt t
  have b2 := Int32.toInt_lt t
  generalize ht : t.toInt = T at b1 b2
  have hq : -(2 ^ 31 : Int) ≤ T.tdiv d ∧ T.tdiv d ≤ 2 ^ 31 - 1 := by
    by_cases hT : 0 ≤ T
    · have := Int.tdiv_nonneg hT (show (0 : Int) ≤ d by omega)
      have := Int.tdiv_le_self (d : Int) hT
      omega
    · have e : T.tdiv d = -((-T).tdiv d) := by rw [Int.neg_tdiv, Int.neg_neg]
      have := Int.tdiv_nonneg (show 0 ≤ -T by omega) (show (0 : Int) ≤ d by omega)
      have := Int.tdiv_le_self (d : Int) (show 0 ≤ -T by omega)
      omega
  have hm := Int.mul_tdiv_add_tmod T (d : Int)
  have m1 := Int.tmod_lt_of_pos T (show (0 : Int) < d by omega)
  have m2 := Int.lt_tmod_of_pos T (show (0 : Int) < d by omega)
  have m3 : (0 ≤ T → 0 ≤ T.tmod d) ∧ (T < 0 → T.tmod d ≤ 0) := by
    refine ⟨fun z => Int.tmod_nonneg _ z, fun z => ?_⟩
    have e : T.tmod d = -((-T).tmod d) := by rw [Int.neg_tmod, Int.neg_neg]
    have := Int.tmod_nonneg (d : Int) (show 0 ≤ -T by omega)
    omega
  have e1 : (t / nI d).toInt = T.tdiv d := by
    rw [Int32.toInt_div, hdn, ht]
    exact Int.bmod_eq_of_le (by omega) (by omega)
  have e2 : (t / nI d * nI d).toInt = T - T.tmod d := by
    rw [Int32.toInt_mul, e1, hdn, show T.tdiv d * (d : Int) = T - T.tmod d by rw [Int.mul_comm]; omega]
    exact Int.bmod_eq_of_le (by omega) (by omega)
  have e3 : (t - t / nI d * nI d).toInt = T.tmod d := by
    rw [Int32.toInt_sub, e2, ht, show T - (T - T.tmod d) = T.tmod d by omega]
    exact Int.bmod_eq_of_le (by omega) (by omega)
  rw [e3]
  exact ⟨m2, m1⟩
/-- how much is left, as the class sees it -/
def Lc (f : Nat → Nat → Int32) (lf : Int32) : Prop := ∀ (h : HP) (Q : Int32 → HP → Prop), (∀ j, h.1 3 j = f 3 j) → Q lf h → P_X0_left h Q
theorem air_left {hc hm : HP} (ha : RAir hc hm) (h1 : hc.1 3 0 = 1) : ∃ lf, Lc hc.1 lf ∧ Lf hm.1 lf ∧ (lf ≤ 0 → lf = 0) := by
  obtain ⟨e, ha⟩ := ha
  rcases ha with ⟨z, -⟩ | ⟨-, on, off, rt, bd, a1, a2, a3, a4, ⟨b1, b2⟩, b3, b4⟩
  · rw [h1] at z; exact absurd z (by decide)
  have c1 : hc.1 3 1 = nI on := (e 0 (by omega)).trans a1
  have c2 : hc.1 3 2 = nI off := (e 1 (by omega)).trans a2
  have c5 : hc.1 3 5 = hm.1 78 4 := e 4 (by omega)
  let t := hm.1 78 4
  let rs := t - t / nI (on + off) * nI (on + off)
  have ne : ¬ nI (on + off) = 0 := by rw [n0, n_ueq (by omega) (by omega)]; omega
  refine ⟨if nI on ≤ rs then 0 else nI on - rs, fun h Q hj hQ => ?_, fun h Q hj hQ => ?_, fun hz => ?_⟩
  · unfold P_X0_left P_X0_left_j25
    rw [hj, hj, hj, c1, c2, c5, nI_add]
    refine ⟨fun z => absurd z ?_, fun _ => ⟨ne, fun z => ?_, fun z => ?_⟩⟩
    · rw [n0, n_ule (by omega) (by omega)]; omega
    · rw [if_pos z] at hQ; exact hQ
    · rw [if_neg z] at hQ; exact hQ
  · unfold P_X9_left P_X9_isAir P_X9_left_j26
    refine ⟨fun z => absurd z ?_, fun _ => ⟨fun z => absurd z (by decide), fun _ => ?_⟩⟩
    · rw [hj 0 (by omega), a1, n0, n_ule (by omega) (by omega)]; omega
    · rw [hj 0 (by omega), hj 1 (by omega), hj 4 (by omega), a1, a2, nI_add]
      refine ⟨ne, fun z => ?_, fun z => ?_⟩
      · rw [if_pos z] at hQ; exact hQ
      · rw [if_neg z] at hQ; exact hQ
  · by_cases z : nI on ≤ rs
    · rw [if_pos z]
    · rw [if_neg z] at hz
      have hb : -((on + off : Nat) : Int) < rs.toInt ∧ rs.toInt < ((on + off : Nat) : Int) := rem_bd (t := t) (d := on + off) (by omega) (by omega)
      have hon : (nI on).toInt = (on : Int) := Int32.toInt_ofNat_of_lt (by omega)
      have z' : rs.toInt < on := by
        rw [Int32.not_le, Int32.lt_iff_toInt_lt, hon] at z; exact z
      have hs : (nI on - rs).toInt = on - rs.toInt := by
        rw [Int32.toInt_sub, hon]
        exact Int.bmod_eq_of_le (by omega) (by omega)
      rw [Int32.le_iff_toInt_le, hs] at hz
      have : (0 : Int32).toInt = 0 := rfl
      omega
