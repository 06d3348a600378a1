/-! The far end as numbers: kind, window, hold, MARK, bits; doubled (here, in all); FROM and what goes with it. -/
abbrev FYS : Type := (Nat × Nat × Nat × Nat × Nat) × Int32 × Int32 × FMS
def YOk (y : FYS) : Prop := y.1.1 ≤ 2 ∧ (1 ≤ y.1.2.1 ∧ y.1.2.1 ≤ 12) ∧ (1 ≤ y.1.2.2.1 ∧ y.1.2.2.1 ≤ 20) ∧ y.1.2.2.2.1 < 64 ∧ y.1.2.2.2.2 < 2 ^ y.1.2.1 ∧ y.2.2.2.1 < 64 ∧ y.2.2.2.2.1 < y.1.2.2.1 ∧ KOk y.1.2.1 y.2.2.2.2.2.1 ∧ y.2.2.2.2.2.2.1 ≤ 10
def mkA (s : Nat) (m : Nat × Nat) : Nat × Nat := if s = 0 then m else ((m.1 + s) % 64, m.2 / 2 ^ s)
def mark1 (w nb : Nat) (m : Nat × Nat) : Nat × Nat := if (nb + 64 - m.1) % 64 < 32 then ((mkA ((nb + 64 - m.1) % 64 - (w - 1)) m).1, (mkA ((nb + 64 - m.1) % 64 - (w - 1)) m).2 ||| 2 ^ ((nb + 64 - (mkA ((nb + 64 - m.1) % 64 - (w - 1)) m).1) % 64)) else m
def upK (K : Nat → Nat) (e v : Nat) : Nat → Nat := fun k => if k = e then v else K k
def onA (x : FMS) : FMS := mvA (ld 12 x.2.2.1) x
def put1 (kd nb v : Nat) (x : FMS) : FMS := if x.2.2.1 ((nb + 64 - x.1) % 64) ≠ 0 then x else if kd = 2 then (x.1, x.2.1, upK x.2.2.1 ((nb + 64 - x.1) % 64) 1, relO (nI v) x.2.2.2) else (x.1, x.2.1, upK x.2.2.1 ((nb + 64 - x.1) % 64) (v + 1), x.2.2.2)
def dbl1 (nb : Nat) (x : FMS) : Int32 := if x.2.2.1 ((nb + 64 - x.1) % 64) ≠ 0 then 1 else 0
def mv1 (w nb : Nat) (x : FMS) : FMS := mvA ((nb + 64 - x.1) % 64 - (w - 1)) x
def from1 (kd w nb v : Nat) (x : FMS) : FMS := if (nb + 64 - x.1) % 64 < 32 then onA (put1 kd nb v (mv1 w nb x)) else x
def fromD (w nb : Nat) (x : FMS) : Int32 := if (nb + 64 - x.1) % 64 < 32 then dbl1 nb (mv1 w nb x) else 1
def comesA (nb v : Nat) (y : FYS) : FYS := ((y.1.1, y.1.2.1, y.1.2.2.1, mark1 y.1.2.1 nb y.1.2.2.2), y.2.1 + fromD y.1.2.1 nb y.2.2.2, y.2.2.1 + fromD y.1.2.1 nb y.2.2.2, from1 y.1.1 y.1.2.1 nb v y.2.2.2)
def barA (nb : Nat) (y : FYS) : FYS := ((y.1.1, y.1.2.1, y.1.2.2.1, if (nb + 64 - y.1.2.2.2.1) % 64 < 32 then mkA ((nb + 64 - y.1.2.2.2.1) % 64) y.1.2.2.2 else y.1.2.2.2), y.2.1, y.2.2.1, if (nb + 64 - y.2.2.2.1) % 64 < 32 then onA (mvA ((nb + 64 - y.2.2.2.1) % 64) y.2.2.2) else y.2.2.2)
/-- for how many something is held; for which first -/
def hcN : Nat → (Nat → Nat) → Nat
  | 0, _ => 0
  | k + 1, K => hcN k K + (if 2 ≤ K k then 1 else 0)
def fhN : Nat → (Nat → Nat) → Nat
  | 0, _ => 0
  | n + 1, K => if 2 ≤ K 0 then 0 else fhN n (fun k => K (k + 1)) + 1
def tickA (y : FYS) : FYS := if y.1.1 = 1 ∧ 0 < hcN y.1.2.1 y.2.2.2.2.2.1 then (if y.2.2.2.2.1 + 1 < y.1.2.2.1 then (y.1, y.2.1, y.2.2.1, y.2.2.2.1, y.2.2.2.2.1 + 1, y.2.2.2.2.2) else (y.1, y.2.1, y.2.2.1, onA (mvA (fhN y.1.2.1 y.2.2.2.2.2.1) (y.2.2.2.1, y.2.2.2.2.1 + 1, y.2.2.2.2.2)))) else y
-- what stays right
theorem mvA_lt {s : Nat} {x : FMS} (h : x.1 < 64) : (mvA s x).1 < 64 := by
  unfold mvA
  split
  · exact h
  · show (x.1 + s) % 64 < 64
    omega
theorem mvA_wa {s : Nat} {x : FMS} : (mvA s x).2.1 ≤ x.2.1 := by
  unfold mvA
  split
  · exact Nat.le_refl _
  · exact Nat.zero_le _
theorem rlN_le {K : Nat → Nat} : ∀ (n : Nat) (s : OS), s.1 ≤ 10 → (rlN n K s).1 ≤ 10 := by
  intro n
  induction n with
  | zero => exact fun s h => h
  | succ n ih =>
    intro s h
    show (if 2 ≤ K n then _ else _ : OS).1 ≤ 10
    split
    · exact Nat.min_le_right _ _
    · exact ih s h
theorem mvA_os {s : Nat} {x : FMS} (h : x.2.2.2.1 ≤ 10) : (mvA s x).2.2.2.1 ≤ 10 := by
  unfold mvA
  split
  · exact h
  · exact rlN_le s _ h
theorem mkA_lt {s : Nat} {m : Nat × Nat} (h : m.1 < 64) : (mkA s m).1 < 64 := by
  unfold mkA
  split
  · exact h
  · show (m.1 + s) % 64 < 64
    omega
theorem mkA_bi {s w : Nat} {m : Nat × Nat} (h : m.2 < 2 ^ w) : (mkA s m).2 < 2 ^ w := by
  unfold mkA
  split
  · exact h
  · exact Nat.lt_of_le_of_lt (Nat.div_le_self _ _) h
theorem mkA_fst {s : Nat} {m : Nat × Nat} (h : m.1 < 64) : (mkA s m).1 = (m.1 + s) % 64 := by
  unfold mkA
  split
  · rename_i e
    rw [e, Nat.add_zero, Nat.mod_eq_of_lt h]
  · rfl
theorem mvA_fst {s : Nat} {x : FMS} (h : x.1 < 64) : (mvA s x).1 = (x.1 + s) % 64 := by
  unfold mvA
  split
  · rename_i e
    rw [e, Nat.add_zero, Nat.mod_eq_of_lt h]
  · rfl
/-- behind the move the number stands in the span -/
theorem mark_in {w nb : Nat} {m : Nat × Nat} (hw : 1 ≤ w) (hn : nb < 64) (hm : m.1 < 64) (h : (nb + 64 - m.1) % 64 < 32) : (nb + 64 - (mkA ((nb + 64 - m.1) % 64 - (w - 1)) m).1) % 64 < w := by
  rw [mkA_fst hm]
  omega
theorem mv1_in {w nb : Nat} {x : FMS} (hw : 1 ≤ w) (hn : nb < 64) (hm : x.1 < 64) (h : (nb + 64 - x.1) % 64 < 32) : (nb + 64 - (mv1 w nb x).1) % 64 < w := by
  unfold mv1
  rw [mvA_fst hm]
  omega
theorem mark1_ok {w nb : Nat} {m : Nat × Nat} (hw : 1 ≤ w) (hn : nb < 64) (h1 : m.1 < 64) (h2 : m.2 < 2 ^ w) : (mark1 w nb m).1 < 64 ∧ (mark1 w nb m).2 < 2 ^ w := by
  unfold mark1
  split
  · rename_i h
    refine ⟨mkA_lt h1, Nat.or_lt_two_pow (mkA_bi h2) (Nat.pow_lt_pow_right (by omega) (mark_in hw hn h1 h))⟩
  · exact ⟨h1, h2⟩
theorem upK_ok {w e v : Nat} {K : Nat → Nat} (h : KOk w K) (he : e < w) (hv : v ≤ 2000) : KOk w (upK K e v) := ⟨fun k hk => by unfold upK; rw [if_neg (by omega)]; exact h.1 k hk, fun k => by unfold upK; split; exact hv; exact h.2 k⟩
theorem onA_ok {w : Nat} {x : FMS} (h : KOk w x.2.2.1) : KOk w (onA x).2.2.1 := mvA_ok h
theorem put1_fst {kd nb v : Nat} {x : FMS} : (put1 kd nb v x).1 = x.1 ∧ (put1 kd nb v x).2.1 = x.2.1 := by
  unfold put1
  split
  · exact ⟨rfl, rfl⟩
  · split <;> exact ⟨rfl, rfl⟩
theorem put1_os {kd nb v : Nat} {x : FMS} (h : x.2.2.2.1 ≤ 10) : (put1 kd nb v x).2.2.2.1 ≤ 10 := by
  unfold put1
  split
  · exact h
  · split
    · exact Nat.min_le_right _ _
    · exact h
theorem put1_ok {w kd nb v : Nat} {x : FMS} (h : KOk w x.2.2.1) (he : (nb + 64 - x.1) % 64 < w) (hv : v ≤ 1500) : KOk w (put1 kd nb v x).2.2.1 := by
  unfold put1
  split
  · exact h
  · split
    · exact upK_ok h he (by omega)
    · exact upK_ok h he (by omega)
theorem comes_ok {nb v : Nat} {y : FYS} (hy : YOk y) (hn : nb < 64) (hv : v ≤ 1500) : YOk (comesA nb v y) := by
  obtain ⟨h1, h2, h3, h4, h5, h6, h7, h8, h9⟩ := hy
  obtain ⟨m1, m2⟩ := mark1_ok (m := y.1.2.2.2) h2.1 hn h4 h5
  have hx : (from1 y.1.1 y.1.2.1 nb v y.2.2.2).1 < 64 ∧ (from1 y.1.1 y.1.2.1 nb v y.2.2.2).2.1 < y.1.2.2.1 ∧ KOk y.1.2.1 (from1 y.1.1 y.1.2.1 nb v y.2.2.2).2.2.1 ∧ (from1 y.1.1 y.1.2.1 nb v y.2.2.2).2.2.2.1 ≤ 10 := by
    unfold from1
    split
    · rename_i h
      have q1 : (put1 y.1.1 nb v (mv1 y.1.2.1 nb y.2.2.2)).1 < 64 := by rw [put1_fst.1]; exact mvA_lt h6
      refine ⟨mvA_lt q1, Nat.lt_of_le_of_lt mvA_wa ?_, mvA_ok (put1_ok (mvA_ok h8) (mv1_in h2.1 hn h6 h) hv), mvA_os (put1_os (mvA_os h9))⟩
      rw [put1_fst.2]
      exact Nat.lt_of_le_of_lt mvA_wa h7
    · exact ⟨h6, h7, h8, h9⟩
  exact ⟨h1, h2, h3, m1, m2, hx.1, hx.2.1, hx.2.2.1, hx.2.2.2⟩
theorem bar_ok {nb : Nat} {y : FYS} (hy : YOk y) : YOk (barA nb y) := by
  obtain ⟨h1, h2, h3, h4, h5, h6, h7, h8, h9⟩ := hy
  have hm : (if (nb + 64 - y.1.2.2.2.1) % 64 < 32 then mkA ((nb + 64 - y.1.2.2.2.1) % 64) y.1.2.2.2 else y.1.2.2.2).1 < 64 ∧ (if (nb + 64 - y.1.2.2.2.1) % 64 < 32 then mkA ((nb + 64 - y.1.2.2.2.1) % 64) y.1.2.2.2 else y.1.2.2.2).2 < 2 ^ y.1.2.1 := by
    split
    · exact ⟨mkA_lt h4, mkA_bi h5⟩
    · exact ⟨h4, h5⟩
  have hx : ∀ z : FMS, z = (if (nb + 64 - y.2.2.2.1) % 64 < 32 then onA (mvA ((nb + 64 - y.2.2.2.1) % 64) y.2.2.2) else y.2.2.2) → z.1 < 64 ∧ z.2.1 < y.1.2.2.1 ∧ KOk y.1.2.1 z.2.2.1 ∧ z.2.2.2.1 ≤ 10 := by
    intro z hz
    subst hz
    split
    · exact ⟨mvA_lt (mvA_lt h6), Nat.lt_of_le_of_lt mvA_wa (Nat.lt_of_le_of_lt mvA_wa h7), mvA_ok (mvA_ok h8), mvA_os (mvA_os h9)⟩
    · exact ⟨h6, h7, h8, h9⟩
  obtain ⟨x1, x2, x3, x4⟩ := hx _ rfl
  exact ⟨h1, h2, h3, hm.1, hm.2, x1, x2, x3, x4⟩
theorem mvA_wa0 {s : Nat} {x : FMS} (hs : s ≠ 0) : (mvA s x).2.1 = 0 := by
  unfold mvA
  rw [if_neg hs]
theorem fh_held : ∀ (n : Nat) (K : Nat → Nat), 0 < hcN n K → fhN n K < n ∧ 2 ≤ K (fhN n K) := by
  have hsh : ∀ (n : Nat) (K : Nat → Nat), hcN (n + 1) K = (if 2 ≤ K 0 then 1 else 0) + hcN n (fun k => K (k + 1)) := by
    intro n
    induction n with
    | zero => intro K; simp [hcN]
    | succ n ih =>
      intro K
      show hcN (n + 1) K + _ = _
      rw [ih K]
      show _ = _ + (hcN n (fun k => K (k + 1)) + (if 2 ≤ K (n + 1) then 1 else 0))
      omega
  intro n
  induction n with
  | zero => intro K h; exact absurd h (by simp [hcN])
  | succ n ih =>
    intro K h
    rw [hsh] at h
    show (if 2 ≤ K 0 then 0 else fhN n (fun k => K (k + 1)) + 1) < n + 1 ∧ 2 ≤ K (if 2 ≤ K 0 then 0 else fhN n (fun k => K (k + 1)) + 1)
    by_cases h0 : 2 ≤ K 0
    · rw [if_pos h0]
      exact ⟨by omega, h0⟩
    · rw [if_neg h0] at h ⊢
      obtain ⟨a, b⟩ := ih (fun k => K (k + 1)) (by omega)
      exact ⟨by omega, b⟩
theorem ld_pos {n : Nat} {K : Nat → Nat} (h : K 0 ≠ 0) : ld (n + 1) K ≠ 0 := by
  show (if K 0 = 0 then 0 else _) ≠ 0
  rw [if_neg h]
  omega
theorem tick_ok {y : FYS} (hy : YOk y) : YOk (tickA y) := by
  obtain ⟨h1, h2, h3, h4, h5, h6, h7, h8, h9⟩ := hy
  unfold tickA
  split
  · rename_i hc
    split
    · rename_i hlt
      exact ⟨h1, h2, h3, h4, h5, h6, hlt, h8, h9⟩
    · refine ⟨h1, h2, h3, h4, h5, mvA_lt (mvA_lt h6), ?_, mvA_ok (mvA_ok h8), mvA_os (mvA_os h9)⟩
      show (onA (mvA _ _)).2.1 < _
      unfold onA
      by_cases hf : fhN y.1.2.1 y.2.2.2.2.2.1 = 0
      · rw [hf]
        have h00 := (fh_held _ _ hc.2).2
        rw [hf] at h00
        rw [mvA_wa0]
        · exact h3.1
        · show ld 12 (mvA 0 _).2.2.1 ≠ 0
          exact ld_pos (n := 11) (show y.2.2.2.2.2.1 0 ≠ 0 by omega)
      · refine Nat.lt_of_le_of_lt mvA_wa ?_
        rw [mvA_wa0 hf]
        exact h3.1
  · exact ⟨h1, h2, h3, h4, h5, h6, h7, h8, h9⟩
/-- class: a far end F whose session is there -/
def CFar (f : Nat → Nat → Int32) (F : Nat) (y : FYS) : Prop := f F 2 = 1 ∧ f F 3 = nI y.1.1 ∧ f F 4 = nI y.1.2.1 ∧ f F 5 = nI y.1.2.2.1 ∧ f F 7 = nI y.1.2.2.2.1 ∧ f F 8 = nI y.1.2.2.2.2 ∧ f F 10 = y.2.1 ∧ f 4 5 = y.2.2.1 ∧ CM f F y.2.2.2
def sFar (F a b : Nat) : Prop := (a = F ∧ 2 ≤ b ∧ b ≤ 10) ∨ (a = F + 1 ∧ b = 1) ∨ a = F + 2 ∨ a = F + 3 ∨ (a = 4 ∧ (b = 4 ∨ b = 5))
theorem sMv_far {F a b : Nat} (h : sMv F a b) : sFar F a b := by
  rcases h with ⟨h1, h2⟩ | h | h | h | ⟨h1, h2⟩
  · exact Or.inl ⟨h1, by omega, by omega⟩
  · exact Or.inr (Or.inr (Or.inr (Or.inl h)))
  · exact Or.inr (Or.inl h)
  · exact Or.inr (Or.inr (Or.inl h))
  · exact Or.inr (Or.inr (Or.inr (Or.inr ⟨h1, Or.inl h2⟩)))
theorem CM.fr {f f' : Nat → Nat → Int32} {F : Nat} {x : FMS} (h : CM f F x) (h1 : f' F 6 = f F 6) (h2 : f' F 9 = f F 9) (h3 : ∀ b, f' (F + 3) b = f (F + 3) b) (h4 : f' (F + 1) 1 = f (F + 1) 1) (h5 : ∀ i, f' (F + 2) i = f (F + 2) i) (h6 : f' 4 4 = f 4 4) : CM f' F x := ⟨h.1, by rw [h1]; exact h.2.1, by rw [h2]; exact h.2.2.1, fun k hk => by rw [h3]; exact h.2.2.2.1 k hk, h.2.2.2.2.fr h4 h5 h6⟩
/-- what a move leaves of the rest -/
theorem CFar.mv {f f' : Nat → Nat → Int32} {F : Nat} {y : FYS} {x : FMS} (hF : 40 < F) (h : CFar f F y) (hfr : Fr (sMv F) f f') (hx : CM f' F x) : CFar f' F (y.1, y.2.1, y.2.2.1, x) := by
  have k : ∀ b, b ≠ 6 → b ≠ 9 → f' F b = f F b := fun b h1 h2 => hfr _ _ (by rintro (⟨-, z | z⟩ | z | ⟨z, -⟩ | z | ⟨z, -⟩) <;> omega)
  have k4 : f' 4 5 = f 4 5 := hfr _ _ (by rintro (⟨z, -⟩ | z | ⟨z, -⟩ | z | ⟨-, z⟩) <;> omega)
  obtain ⟨h1, h2, h3, h4, h5, h6, h7, h8, -⟩ := h
  exact ⟨by rw [k _ (by omega) (by omega)]; exact h1, by rw [k _ (by omega) (by omega)]; exact h2, by rw [k _ (by omega) (by omega)]; exact h3, by rw [k _ (by omega) (by omega)]; exact h4, by rw [k _ (by omega) (by omega)]; exact h5, by rw [k _ (by omega) (by omega)]; exact h6, by rw [k _ (by omega) (by omega)]; exact h7, by rw [k4]; exact h8, hx⟩
