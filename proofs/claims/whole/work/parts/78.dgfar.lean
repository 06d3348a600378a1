/-! digest: far ends, letters. -/
theorem k_hasPlF {F w : Nat} {h : HP} {Q : Int32 → HP → Prop} (h2 : ¬ h.1 F 2 = 0) (h4 : h.1 F 4 = nI w) {i : Int32} : ((i < 0 ∨ nI w - 1 < i) → Q 0 h → P_X1_hasPlace F i h Q) ∧ ((¬ (i < 0 ∨ nI w - 1 < i)) → Q 1 h → P_X1_hasPlace F i h Q) := by
  refine ⟨fun hw hQ => bc_f h2 ?_, fun hw hQ => bc_f h2 ?_⟩
  · rw [h4]; exact wi_f hw (bz_f2 hQ)
  · rw [h4]; exact wi_t hw (bz_t2 hQ)
theorem far_dg {hc hm : HP} (hI : InvW hc hm) {c : Nat} (hc4 : c < 4) : ∃ f : Int64 → Int64, (∀ (l : Int64) (Q : Int64 → HP → Prop), Q (f l) hc → P_X8_digestOfFarEnd l (41 + 11 * c) hc Q) ∧ ∀ (l : Int64) (Q : HP → Prop), Q (sl hm (f l)) → P_X9_mixFar (nI c) (sl hm l) Q := by
  have hic : vp_in (nI c) 4 := n_in hc4 (by omega)
  have hcl : (nI c).toNatClampNeg = c := n_cl (by omega)
  have HV : ∀ j : Nat, ∃ v : Int32, (∀ Q : Int32 → HP → Prop, Q v hc → P_X1_tell (41 + 11 * c) (nI j) hc Q) ∧ ∀ (h : HP) (Q : Int32 → HP → Prop), h.1 = hm.1 → Q v h → P_X9_farNow (nI c) (nI j) h Q := fun j => farV hI hc4 (nI j)
  obtain ⟨V, hV⟩ := Classical.axiomOfChoice HV
  have J : ∀ os : OS, CO hc.1 (41 + 11 * c) os → MO hm.1 c os → (∀ (l : Int64) (Q : Int64 → HP → Prop), Q (fdN (mixF os.2.1) os.1 l) hc → P_X8_digestOfFarEnd_j65 (41 + 11 * c) l hc Q) ∧ ∀ (l : Int64) (Q : HP → Prop), Q (sl hm (fdN (mixF os.2.1) os.1 l)) → P_X9_mixFar_j78 78 (nI c) (sl hm l) Q := by
    intro os co mo
    have h10 := co.1
    refine ⟨fun l Q hQ => ?_, fun l Q hQ => ?_⟩
    · unfold P_X8_digestOfFarEnd_j65
      refine cLoopG (N := os.1) (F := mixF os.2.1) (fun X l j hj z => bc_f (nlt (N := 10) (by omega) (by omega) rfl) (k_outHas1 co.2.1 h10 hj (bz_t2 (k_outAt co hj ?_)))) (fun X => ⟨fun _ => hQ, fun _ => k_outHas0 co.2.1 (out_m (by omega)) (bz_f2 hQ)⟩)
      show X (mixF os.2.1 j l) (nI j + 1) hc
      rw [nI_1]; exact z
    · unfold P_X9_mixFar_j78
      rw [hcl]
      refine mLoopG (N := os.1) (F := mixF os.2.1) (fun X l j hj z => ⟨hic, bc_f ?_ ?_⟩) (fun X => ⟨hic, bc_t ?_ hQ⟩)
      · exact nlt hj (by omega) mo.2.1
      · rw [n10, nI_add, n_cl (by omega)]
        refine ⟨n_in (by omega) (by omega), ?_⟩
        show X (nI j + 1) (sl hm (((31 : Int64) * l) + (hm.1 110 (10 * c + j)).toInt64))
        rw [mo.2.2.1 j hj, nI_1]; exact z
      · show hm.1 109 c ≤ nI os.1
        rw [mo.2.1]; exact Int32.le_refl _
  rcases hI.2.2.2.2.1 c hc4 with ⟨os, o1, o2, o3, o4⟩ | ⟨y, ok, a, b⟩
  · obtain ⟨J1, J2⟩ := J os o3 o4
    refine ⟨fun l => fdN (mixF os.2.1) os.1 (fdN (mixF V) 9 l), fun l Q hQ => ?_, fun l Q hQ => ?_⟩
    · unfold P_X8_digestOfFarEnd
      refine cLoopG (N := 9) (F := mixF V) (fun X l j hj z => bc_f (nlt hj (by omega) rfl) ((hV j).1 _ ?_)) (fun X => bc_t (Int32.le_refl _) ?_)
      · show X (mixF V j l) (nI j + 1) hc
        rw [nI_1]; exact z
      exact cLoopG (N := 0) (F := fun _ l => l) (fun X l p hp z => absurd hp (Nat.not_lt_zero p)) (fun X => ⟨fun _ => J1 _ _ hQ, fun _ => bc_t o1 (bz_f2 (J1 _ _ hQ))⟩)
    · unfold P_X9_mixFar
      rw [hcl]
      refine mLoopG (N := 9) (F := mixF V) (fun X l j hj z => bc_f (nlt hj (by omega) rfl) ((hV j).2 _ _ rfl ?_)) (fun X => bc_t (Int32.le_refl _) ?_)
      · show X (nI j + 1) (sl hm (mixF V j l))
        rw [nI_1]; exact z
      exact mLoopG (N := 0) (F := fun _ l => l) (fun X l p hp z => absurd hp (Nat.not_lt_zero p)) (fun X => ⟨hic, fun _ => J2 _ _ hQ, fun _ => ⟨hic, bc_t o2 (J2 _ _ hQ)⟩⟩)
  · obtain ⟨b1, b2, b3, b4, b5, b6, b7, b8, b9, b10, b11, b12, b13⟩ := id a
    obtain ⟨c1, c2, c3, c4, c5, c6, c7, c8, c9, c10, c11, c12, c13⟩ := id b
    have hw12 : y.1.2.1 ≤ 12 := ok.2.1.2
    have d1 : ¬ hc.1 (41 + 11 * c) 2 = 0 := by rw [b1]; decide
    have d2 : ¬ hm.1 99 c = 0 := by rw [c1]; decide
    obtain ⟨J1, J2⟩ := J _ b13 c13
    refine ⟨fun l => fdN (mixF y.2.2.2.2.2.2.2.1) y.2.2.2.2.2.2.1 (fdN (mixF fun k => enc (y.2.2.2.2.2.1 k)) y.1.2.1 (fdN (mixF V) 9 l)), fun l Q hQ => ?_, fun l Q hQ => ?_⟩
    · unfold P_X8_digestOfFarEnd
      refine cLoopG (N := 9) (F := mixF V) (fun X l j hj z => bc_f (nlt hj (by omega) rfl) ((hV j).1 _ ?_)) (fun X => bc_t (Int32.le_refl _) ?_)
      · show X (mixF V j l) (nI j + 1) hc
        rw [nI_1]; exact z
      refine cLoopG (N := y.1.2.1) (F := mixF fun k => enc (y.2.2.2.2.2.1 k)) (fun X l p hp z => bc_f (nlt (N := 12) (by omega) (by omega) rfl) ((k_hasPlF d1 b3).2 (win_in (by omega) hp) (bz_t2 (k_keptAt b9 b10 b12 (by omega) ?_)))) (fun X => ⟨fun _ => J1 _ _ hQ, fun _ => (k_hasPlF d1 b3).1 (out_m (by omega)) (bz_f2 (J1 _ _ hQ))⟩)
      show X (mixF (fun k => enc (y.2.2.2.2.2.1 k)) p l) (nI p + 1) hc
      rw [nI_1]; exact z
    · unfold P_X9_mixFar
      rw [hcl]
      refine mLoopG (N := 9) (F := mixF V) (fun X l j hj z => bc_f (nlt hj (by omega) rfl) ((hV j).2 _ _ rfl ?_)) (fun X => bc_t (Int32.le_refl _) ?_)
      · show X (nI j + 1) (sl hm (mixF V j l))
        rw [nI_1]; exact z
      refine mLoopG (N := y.1.2.1) (F := mixF fun k => enc (y.2.2.2.2.2.1 k)) (fun X l p hp z => ⟨hic, bc_f (nlt hp (by omega) c3) ⟨hic, bc_f d2 ⟨hic, ?_⟩⟩⟩) (fun X => ⟨hic, bc_t ?_ (J2 _ _ hQ)⟩)
      · have e1 : (sl hm l).1 103 c = nI y.2.2.2.1 := c10
        rw [e1, n_at hc4 (by omega), n_cl (by omega)]
        refine ⟨n_in (by omega) (by omega), ?_⟩
        show X (nI p + 1) (sl hm (((31 : Int64) * l) + (hm.1 108 (64 * c + (y.2.2.2.1 + p) % 64)).toInt64))
        rw [c12 p (by omega), nI_1]; exact z
      · show hm.1 101 c ≤ nI y.1.2.1
        rw [c3]; exact Int32.le_refl _
theorem let_dg {hc hm : HP} {k p : Nat} {X : Nat → LT} (l1 : CLs hc k X) (l2 : MLs hm.1 k X) (l3 : LsOk hm.1 k X) (hp : p < k) : ∃ f : Int64 → Int64, (∀ (l : Int64) (Q : Int64 → HP → Prop), Q (f l) hc → P_X8_digestOfLetter l (hc.2.1 p) hc Q) ∧ ∀ (l : Int64) (K : HP → Prop), K (sl hm (f l)) → Lp2 (fun X_59 (i2_59 : Int32) (h_59 : HP) => ((6 ≤ i2_59) → (Lp2 (fun X_84 (i2_84 : Int32) (h_84 : HP) => (vp_in ((8 * (nI p)) + 7) 128) ∧ ((((4 * (h_84.1 111 ((8 * (nI p)) + 7).toNatClampNeg)) ≤ i2_84) → (K h_84)) ∧ ((¬ (4 * (h_84.1 111 ((8 * (nI p)) + 7).toNatClampNeg)) ≤ i2_84) → ((vp_in ((32 * (nI p)) + i2_84) 512) ∧ (P_X9_mix ((h_84.1 112 ((32 * (nI p)) + i2_84).toNatClampNeg).toInt64) h_84 (fun (h_115 : HP) => X_84 (i2_84 + 1) h_115)))))) 0 h_59)) ∧ ((¬ 6 ≤ i2_59) → (P_X9_underNow (nI p) i2_59 h_59 (fun (v_69 : Int32) (h_69 : HP) => P_X9_mix v_69.toInt64 h_69 (fun (h_73 : HP) => X_59 (i2_59 + 1) h_73))))) 0 (sl hm l) := by
  have hk := l1.1
  have h8 := (l3.1 p hp).2.2.1
  have a7 : hc.1 (hc.2.1 p) 7 = nI (X p).1.2.2 := (l1.2.2.2 p hp).2.2.2.2.2.2.1
  have b7 : hm.1 111 (8 * p + 7) = nI (X p).1.2.2 := (l2.2.2 p hp).2.2.2.2.2.2.1
  have e7 : 8 * nI p + 7 = nI (8 * p + 7) := by rw [n8]; exact n_addl _ 7 rfl
  have h7 : (nI (8 * p + 7)).toNatClampNeg = 8 * p + 7 := n_cl (by omega)
  have v7 : vp_in (nI (8 * p + 7)) 128 := n_in (by omega) (by omega)
  have HV : ∀ j : Nat, ∃ v : Int32, (∀ Q : Int32 → HP → Prop, Q v hc → P_X2_tell (hc.2.1 p) (nI j) hc Q) ∧ ∀ (h : HP) (Q : Int32 → HP → Prop), h.1 = hm.1 → Q v h → P_X9_underNow (nI p) (nI j) h Q := fun j => underV l1 l2 hp (nI j)
  obtain ⟨V, hV⟩ := Classical.axiomOfChoice HV
  refine ⟨fun l => fdN (mixF fun k => hm.1 112 (32 * p + k)) (4 * (X p).1.2.2) (fdN (mixF V) 6 l), fun l Q hQ => ?_, fun l K hQ => ?_⟩
  · unfold P_X8_digestOfLetter
    refine cLoopG (N := 6) (F := mixF V) (fun Y l j hj z => bc_f (nlt hj (by omega) rfl) ((hV j).1 _ ?_)) (fun Y => bc_t (Int32.le_refl _) ?_)
    · show Y (mixF V j l) (nI j + 1) hc
      rw [nI_1]; exact z
    have hQ : Q (fdN (mixF fun k => hm.1 112 (32 * p + k)) (4 * (X p).1.2.2) (fdN (mixF V) 6 l)) hc := hQ
    rw [← fd_blk (mixF fun k => hm.1 112 (32 * p + k)) 4] at hQ
    refine cLoopG (N := (X p).1.2.2) (F := fun q l => fdN (fun j => mixF (fun k => hm.1 112 (32 * p + k)) (4 * q + j)) 4 l) (fun X' l q hq z => bc_f (nlt (N := 8) (by omega) (by omega) rfl) (k_hasFrame1 a7 h8 hq (bz_t2 ?_))) (fun X' => ⟨fun _ => hQ, fun _ => k_hasFrame0 a7 (out_m (by omega)) (bz_f2 hQ)⟩)
    refine cLoopG (N := 4) (F := fun j => mixF (fun k => hm.1 112 (32 * p + k)) (4 * q + j)) (fun X'' l j hj z' => bc_f (nlt hj (by omega) rfl) (frameV l1 l2 l3 hp hq (by omega) ?_)) (fun X'' => bc_t (Int32.le_refl _) ?_)
    · show X'' (((31 : Int64) * l) + (hm.1 112 (32 * p + 4 * q + j)).toInt64) (nI j + 1) hc
      rw [nI_1, Nat.add_assoc]; exact z'
    · rw [nI_1]; exact z
  · rw [e7, h7, n32]
    refine mLoopG (N := 6) (F := mixF V) (fun Y l j hj z => bc_f (nlt hj (by omega) rfl) ((hV j).2 _ _ rfl ?_)) (fun Y => bc_t (Int32.le_refl _) ?_)
    · show Y (nI j + 1) (sl hm (mixF V j l))
      rw [nI_1]; exact z
    have e4 : 4 * hm.1 111 (8 * p + 7) = nI (4 * (X p).1.2.2) := by rw [b7]; exact n4 _
    refine mLoopG (N := 4 * (X p).1.2.2) (F := mixF fun k => hm.1 112 (32 * p + k)) (fun X' l j hj z => ⟨v7, bc_f (nlt hj (by omega) e4) ?_⟩) (fun X' => ⟨v7, bc_t ?_ hQ⟩)
    · rw [nI_add, n_cl (by omega)]
      refine ⟨n_in (by omega) (by omega), ?_⟩
      show X' (nI j + 1) (sl hm (((31 : Int64) * l) + (hm.1 112 (32 * p + j)).toInt64))
      rw [nI_1]; exact z
    · show 4 * hm.1 111 (8 * p + 7) ≤ nI (4 * (X p).1.2.2)
      rw [e4]; exact Int32.le_refl _
