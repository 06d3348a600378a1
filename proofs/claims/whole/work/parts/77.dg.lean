/-! digest: what is mixed, one behind the other. -/
def fdN (F : Nat → Int64 → Int64) : Nat → Int64 → Int64
  | 0, l => l
  | n + 1, l => F n (fdN F n l)
def mixF (V : Nat → Int32) (j : Nat) (l : Int64) : Int64 := ((31 : Int64) * l) + (V j).toInt64
theorem fd_add (F : Nat → Int64 → Int64) (n : Nat) : ∀ m l, fdN F (n + m) l = fdN (fun j => F (n + j)) m (fdN F n l) := by
  intro m
  induction m with
  | zero => exact fun l => rfl
  | succ m ih =>
    intro l
    show F (n + m) (fdN F (n + m) l) = F (n + m) (fdN (fun j => F (n + j)) m (fdN F n l))
    rw [ih]
theorem fd_blk (F : Nat → Int64 → Int64) (b : Nat) : ∀ n l, fdN (fun p l => fdN (fun j => F (b * p + j)) b l) n l = fdN F (b * n) l := by
  intro n
  induction n with
  | zero => exact fun l => rfl
  | succ n ih =>
    intro l
    show fdN (fun j => F (b * n + j)) b (fdN (fun p l => fdN (fun j => F (b * p + j)) b l) n l) = _
    rw [ih, Nat.mul_succ, fd_add]
theorem cLoopG {N : Nat} {F : Nat → Int64 → Int64} {l0 : Int64} {h : HP} {body : (Int64 → Int32 → HP → Prop) → Int64 → Int32 → HP → Prop} (hb : ∀ X l j, j < N → X (F j l) (nI (j + 1)) h → body X l (nI j) h) (hK : ∀ X, body X (fdN F N l0) (nI N) h) : Lp3 body l0 0 h := by
  refine lpc3 fun X hX => ?_
  have key : ∀ d j, j + d = N → X (fdN F j l0) (nI j) h := by
    intro d
    induction d with
    | zero =>
      intro j hj
      have : j = N := by omega
      subst this
      exact hX _ _ _ (hK X)
    | succ d ih =>
      intro j hj
      exact hX _ _ _ (hb X _ j (by omega) (ih (j + 1) (by omega)))
  exact key N 0 (by omega)
theorem mLoopG {N : Nat} {F : Nat → Int64 → Int64} {l0 : Int64} {h : HP} {body : (Int32 → HP → Prop) → Int32 → HP → Prop} (hb : ∀ X l j, j < N → X (nI (j + 1)) (sl h (F j l)) → body X (nI j) (sl h l)) (hK : ∀ X, body X (nI N) (sl h (fdN F N l0))) : Lp2 body 0 (sl h l0) := by
  refine lpc2 fun X hX => ?_
  have key : ∀ d j, j + d = N → X (nI j) (sl h (fdN F j l0)) := by
    intro d
    induction d with
    | zero =>
      intro j hj
      have : j = N := by omega
      subst this
      exact hX _ _ (hK X)
    | succ d ih =>
      intro j hj
      exact hX _ _ (hb X _ j (by omega) (ih (j + 1) (by omega)))
  exact key N 0 (by omega)
theorem nlt {j N : Nat} (hj : j < N) (hN : N < 2 ^ 30) {B : Int32} (hB : B = nI N) : ¬ B ≤ nI j := by
  subst hB
  rw [n_ule (by omega) (by omega)]
  omega
theorem out_m {n : Nat} (hn : n < 2 ^ 30) : nI n < 0 ∨ nI n - 1 < nI n := by
  cases n with
  | zero => exact Or.inr (by decide)
  | succ m => exact Or.inr (by rw [nI_m1, n_ult (by omega) (by omega)]; omega)
theorem near_dg {hc hm : HP} (hI : InvW hc hm) {c : Nat} (hc4 : c < 4) : ∃ f : Int64 → Int64, (∀ (l : Int64) (Q : Int64 → HP → Prop), Q (f l) hc → P_X8_digestOfNearEnd l (34 + 11 * c) hc Q) ∧ ∀ (l : Int64) (Q : HP → Prop), Q (sl hm (f l)) → P_X9_mixNear (nI c) (sl hm l) Q := by
  have hic : vp_in (nI c) 4 := n_in hc4 (by omega)
  have hcl : (nI c).toNatClampNeg = c := n_cl (by omega)
  have HV : ∀ j : Nat, ∃ v : Int32, (∀ Q : Int32 → HP → Prop, Q v hc → P_X3_tell (34 + 11 * c) (nI j) hc Q) ∧ ∀ (h : HP) (Q : Int32 → HP → Prop), h.1 = hm.1 → Q v h → P_X9_nearNow (nI c) (nI j) h Q := fun j => nearV hI hc4 (nI j)
  obtain ⟨V, hV⟩ := Classical.axiomOfChoice HV
  by_cases s2 : hm.1 81 c = 2
  · obtain ⟨w, tr, st, sp, e, qn, q, d, hn⟩ := st_opn hI hc4 s2
    obtain ⟨p1, p2, p3, p4, p5, p6, p7, p8, p9, p10, p11, p12, p13, p14, p15, p16, p17⟩ := id hn
    have b2 : sp ≤ 12 := p8.2.1
    have s1 : hc.1 (34 + 11 * c) 1 = 2 := (st_eq hI hc4).trans s2
    have HG : ∀ k : Nat, ∃ v : Int32, k < 5 * sp → (∀ Q : Int32 → HP → Prop, Q v hc → P_X3_tellGiven (34 + 11 * c) (nI (k / 5)) (nI (k % 5)) hc Q) ∧ ∀ (h : HP) (Q : Int32 → HP → Prop), h.1 = hm.1 → Q v h → P_X9_givenNow (nI c) (nI (k / 5)) (nI (k % 5)) h Q := by
      intro k
      by_cases hk : k < 5 * sp
      · obtain ⟨v, v1, v2⟩ := givenV hc4 hn (p := k / 5) (m := k % 5) (by omega) (by omega)
        exact ⟨v, fun _ => ⟨v1, v2⟩⟩
      · exact ⟨0, fun z => absurd z hk⟩
    obtain ⟨VG, hVG⟩ := Classical.axiomOfChoice HG
    refine ⟨fun l => fdN (mixF VG) (5 * sp) (fdN (mixF V) 10 l), fun l Q hQ => ?_, fun l Q hQ => ?_⟩
    · unfold P_X8_digestOfNearEnd
      refine cLoopG (N := 10) (F := mixF V) (fun X l j hj z => bc_f (nlt hj (by omega) rfl) ((hV j).1 _ ?_)) (fun X => bc_t (Int32.le_refl _) ?_)
      · show X (mixF V j l) (nI j + 1) hc
        rw [nI_1]; exact z
      have hQ : Q (fdN (mixF VG) (5 * sp) (fdN (mixF V) 10 l)) hc := hQ
      rw [← fd_blk (mixF VG) 5 sp] at hQ
      refine cLoopG (N := sp) (F := fun p l => fdN (fun j => mixF VG (5 * p + j)) 5 l) (fun X l p hp z => bc_f (nlt (N := 12) (by omega) (by omega) rfl) ((k_hasPl s1 p8).2 (win_in (by omega) hp) (bz_t2 ?_))) (fun X => ⟨fun _ => hQ, fun _ => (k_hasPl s1 p8).1 (out_m (by omega)) (bz_f2 hQ)⟩)
      refine cLoopG (N := 5) (F := fun j => mixF VG (5 * p + j)) (fun X' l j hj z' => bc_f (nlt hj (by omega) rfl) ?_) (fun X' => bc_t (Int32.le_refl _) ?_)
      · have e1 : (5 * p + j) / 5 = p := by omega
        have e2 : (5 * p + j) % 5 = j := by omega
        have g := (hVG (5 * p + j) (by omega)).1
        rw [e1, e2] at g
        refine g _ ?_
        show X' (mixF VG (5 * p + j) l) (nI j + 1) hc
        rw [nI_1]; exact z'
      · rw [nI_1]; exact z
    · unfold P_X9_mixNear
      refine mLoopG (N := 10) (F := mixF V) (fun X l j hj z => bc_f (nlt hj (by omega) rfl) ((hV j).2 _ _ rfl ?_)) (fun X => bc_t (Int32.le_refl _) ?_)
      · show X (nI j + 1) (sl hm (mixF V j l))
        rw [nI_1]; exact z
      refine m_isOpen1 hc4 s2 (bz_t2 ⟨hic, hic, ?_⟩)
      rw [hcl]
      refine m_spread (c := c) (e := e) p9 ?_
      unfold P_X9_mixNear_j53
      have e5 : 5 * nI sp = nI (5 * sp) := pk_mul 5 sp
      rw [e5]
      refine mLoopG (N := 5 * sp) (F := mixF VG) (fun X l k hk z => bc_f (nlt hk (by omega) rfl) ?_) (fun X => bc_t (Int32.le_refl _) hQ)
      have d5 : nI k / 5 = nI (k / 5) := pk_div (d := 5) (by omega) (by omega) (by omega)
      have r5 : nI k - nI (k / 5) * 5 = nI (k % 5) := by rw [← d5]; exact n_rem (d := 5) (D := 5) (by omega) (by omega) (by omega) rfl
      rw [d5, r5]
      refine (hVG k hk).2 _ _ rfl ?_
      show X (nI k + 1) (sl hm (mixF VG k l))
      rw [nI_1]; exact z
  · refine ⟨fun l => fdN (mixF V) 10 l, fun l Q hQ => ?_, fun l Q hQ => ?_⟩
    · unfold P_X8_digestOfNearEnd
      refine cLoopG (N := 10) (F := mixF V) (fun X l j hj z => bc_f (nlt hj (by omega) rfl) ((hV j).1 _ ?_)) (fun X => bc_t (Int32.le_refl _) ?_)
      · show X (mixF V j l) (nI j + 1) hc
        rw [nI_1]; exact z
      exact cLoopG (N := 0) (F := fun _ l => l) (fun X l p hp z => absurd hp (Nat.not_lt_zero p)) (fun X => ⟨fun _ => hQ, fun _ => bc_f' (by rw [st_eq hI hc4]; exact s2) (bz_f2 hQ)⟩)
    · unfold P_X9_mixNear
      refine mLoopG (N := 10) (F := mixF V) (fun X l j hj z => bc_f (nlt hj (by omega) rfl) ((hV j).2 _ _ rfl ?_)) (fun X => bc_t (Int32.le_refl _) ?_)
      · show X (nI j + 1) (sl hm (mixF V j l))
        rw [nI_1]; exact z
      refine m_isOpen0 hc4 s2 (bz_f2 ?_)
      unfold P_X9_mixNear_j53
      exact mLoopG (N := 0) (F := fun _ l => l) (fun X l p hp z => absurd hp (Nat.not_lt_zero p)) (fun X => bc_t (by decide) hQ)
