theorem k_pageAt {n p : Nat} {h : HP} {Q : Int32 → HP → Prop} (h1 : h.1 1 1 = nI n) (hn : n ≤ 9) (hp : p < n) (hQ : Q (h.1 2 p) h) : P_X5_at (nI p) h Q := by
  unfold P_X5_at
  rw [h1]
  refine wi_t (win_in (by omega) hp) (bz_t2 ⟨n_in (by omega) (by omega), ?_⟩)
  rw [n_cl (by omega)]
  exact hQ
theorem end_dg {hc hm : HP} (hI : InvW hc hm) : ∃ f : Int64 → Int64, (∀ (l : Int64) (Q : Int64 → HP → Prop), Q (f l) hc → P_X8_digest_j108 0 l hc Q) ∧ ∀ (l : Int64) (Q : Int64 → HP → Prop), Q (f l) (sl hm (f l)) → P_X9_digest_j18 78 (sl hm l) Q := by
  obtain ⟨n, hn, c1, m6, hco⟩ := hI.1
  have HV : ∀ j : Nat, ∃ v : Int32, (∀ Q : Int32 → HP → Prop, Q v hc → P_X8_count (nI j) hc Q) ∧ ∀ (h : HP) (Q : Int32 → HP → Prop), h.1 = hm.1 → Q v h → P_X9_howMany (nI j) h Q := fun j => countV hI (nI j)
  obtain ⟨V, hV⟩ := Classical.axiomOfChoice HV
  refine ⟨fun l => fdN (mixF V) 10 (fdN (mixF (hc.1 2)) n l), fun l Q hQ => ?_, fun l Q hQ => ?_⟩
  · unfold P_X8_digest_j108
    refine cLoopG (N := n) (F := mixF (hc.1 2)) (fun X l j hj z => bc_f (nlt hj (by omega) c1) (k_pageAt c1 hn hj ?_)) (fun X => bc_t (by rw [c1]; exact Int32.le_refl _) ?_)
    · show X (mixF (hc.1 2) j l) (nI j + 1) hc
      rw [nI_1]; exact z
    refine cLoopG (N := 10) (F := mixF V) (fun X l j hj z => bc_f (nlt hj (by omega) rfl) ((hV j).1 _ ?_)) (fun X => bc_t (Int32.le_refl _) hQ)
    show X (mixF V j l) (nI j + 1) hc
    rw [nI_1]; exact z
  · unfold P_X9_digest_j18
    refine mLoopG (N := n) (F := mixF (hc.1 2)) (fun X l j hj z => bc_f (nlt hj (by omega) m6) ⟨n_in (by omega) (by omega), ?_⟩) (fun X => bc_t ?_ ?_)
    · rw [n_cl (by omega)]
      show X (nI j + 1) (sl hm (((31 : Int64) * l) + (hm.1 79 j).toInt64))
      rw [nI_1, ← hco j hj]; exact z
    · show hm.1 78 6 ≤ nI n
      rw [m6]; exact Int32.le_refl _
    refine mLoopG (N := 10) (F := mixF V) (fun X l j hj z => bc_f (nlt hj (by omega) rfl) ((hV j).2 _ _ rfl ?_)) (fun X => bc_t (Int32.le_refl _) hQ)
    show X (nI j + 1) (sl hm (mixF V j l))
    rw [nI_1]; exact z
theorem o_digest : OpL P_X8_digest P_X9_digest InvW := by
  intro hc hm hI
  obtain ⟨fE, E1, E2⟩ := end_dg hI
  rcases air_cases hI with ⟨a1, a2⟩ | ⟨a1, on, a2, a3⟩
  · refine bc_t a1 (E1 _ _ ?_)
    exact m_isAir0 a2 (bz_f2 (E2 _ _ ⟨rfl, hI⟩))
  have HV : ∀ j : Nat, ∃ v : Int32, (∀ Q : Int32 → HP → Prop, Q v hc → P_X0_tell (nI j) hc Q) ∧ ∀ (h : HP) (Q : Int32 → HP → Prop), h.1 = hm.1 → Q v h → P_X9_aboutNow (nI j) h Q := fun j => aboutV hI a1 (nI j)
  obtain ⟨V, hV⟩ := Classical.axiomOfChoice HV
  have HN : ∀ c : Nat, ∃ f : Int64 → Int64, c < 4 → (∀ (l : Int64) (Q : Int64 → HP → Prop), Q (f l) hc → P_X8_digestOfNearEnd l (34 + 11 * c) hc Q) ∧ ∀ (l : Int64) (Q : HP → Prop), Q (sl hm (f l)) → P_X9_mixNear (nI c) (sl hm l) Q := by
    intro c
    by_cases hc4 : c < 4
    · obtain ⟨f, f1⟩ := near_dg hI hc4
      exact ⟨f, fun _ => f1⟩
    · exact ⟨id, fun z => absurd z hc4⟩
  have HF : ∀ c : Nat, ∃ f : Int64 → Int64, c < 4 → (∀ (l : Int64) (Q : Int64 → HP → Prop), Q (f l) hc → P_X8_digestOfFarEnd l (41 + 11 * c) hc Q) ∧ ∀ (l : Int64) (Q : HP → Prop), Q (sl hm (f l)) → P_X9_mixFar (nI c) (sl hm l) Q := by
    intro c
    by_cases hc4 : c < 4
    · obtain ⟨f, f1⟩ := far_dg hI hc4
      exact ⟨f, fun _ => f1⟩
    · exact ⟨id, fun z => absurd z hc4⟩
  obtain ⟨fN, hN⟩ := Classical.axiomOfChoice HN
  obtain ⟨fF, hF⟩ := Classical.axiomOfChoice HF
  obtain ⟨k, X, l1, l2, l3, l4⟩ := hI.2.2.2.2.2
  have hk := l1.1
  obtain ⟨fL, hL⟩ : ∃ fL : Nat → Int64 → Int64, ∀ p (hp : p < k), fL p = Classical.choose (let_dg l1 l2 l3 hp) := ⟨fun p => if hp : p < k then Classical.choose (let_dg l1 l2 l3 hp) else id, fun p hp => dif_pos hp⟩
  refine bc_f (by rw [a1]; decide) ?_
  refine cLoopG (N := 7) (F := mixF V) (fun X l j hj z => bc_f (nlt hj (by omega) rfl) ((hV j).1 _ ?_)) (fun X => bc_t (Int32.le_refl _) ?_)
  · show X (mixF V j l) (nI j + 1) hc
    rw [nI_1]; exact z
  refine cLoopG (N := 4) (F := fun c l => fF c (fN c l)) (fun X l c hc4 z => bc_f (nlt hc4 (by omega) rfl) ?_) (fun X => bc_t (Int32.le_refl _) ?_)
  · have hic : vp_in (nI c) 4 := n_in hc4 (by omega)
    rw [n_cl (by omega), nI_1]
    exact ⟨hic, (hN c hc4).1 _ _ ⟨hic, (hF c hc4).1 _ _ z⟩⟩
  refine cLoopG (N := k) (F := fL) (fun X l p hp z => bc_f (nlt hp (by omega) l1.2.1) (k_at l1 hp ⟨ty_L (l1.2.2.1.1 p (by omega)), ?_⟩)) (fun X => bc_t (by rw [l1.2.1]; exact Int32.le_refl _) (E1 _ _ ?_))
  · have S := Classical.choose_spec (let_dg l1 l2 l3 hp)
    rw [← hL p hp] at S
    refine S.1 _ _ ?_
    rw [nI_1]; exact z
  refine m_isAir1 a2 a3 (bz_t2 ?_)
  show P_X9_mixAir (sl hm 1543) _
  unfold P_X9_mixAir
  refine mLoopG (N := 7) (F := mixF V) (fun X l j hj z => bc_f (nlt hj (by omega) rfl) ((hV j).2 _ _ rfl ?_)) (fun X => bc_t (Int32.le_refl _) ?_)
  · show X (nI j + 1) (sl hm (mixF V j l))
    rw [nI_1]; exact z
  refine mLoopG (N := 4) (F := fun c l => fF c (fN c l)) (fun X l c hc4 z => bc_f (nlt hc4 (by omega) rfl) ?_) (fun X => bc_t (Int32.le_refl _) ?_)
  · rw [nI_1]
    exact (hN c hc4).2 _ _ ((hF c hc4).2 _ _ z)
  refine mLoopG (N := k) (F := fL) (fun X l p hp z => bc_f (nlt hp (by omega) l2.2.1) ?_) (fun X => bc_t ?_ (E2 _ _ ⟨rfl, hI⟩))
  · have S := Classical.choose_spec (let_dg l1 l2 l3 hp)
    rw [← hL p hp] at S
    refine S.2 _ (fun h_84 => X (nI p + 1) h_84) ?_
    rw [nI_1]; exact z
  · show hm.1 78 39 ≤ nI k
    rw [l2.2.1]; exact Int32.le_refl _
theorem inv_ops : OPS InvW := ⟨o_letter, o_blank, o_fault, o_air, o_open, o_close, o_feed, o_bundle, o_expire, o_deliver, o_lose, o_pass, o_about, o_near, o_given, o_far, o_held, o_as, o_released, o_under, o_frame, o_count, o_digest⟩
