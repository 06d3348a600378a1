/-! Near end: a bundle goes, on the side of the class. -/
abbrev GF : Type := Nat → Nat × Nat × Nat
def upG (G : GF) (n : Nat) (u : Nat × Nat × Nat) : GF := fun j => if j = n then u else G j
theorem upG_s (G : GF) (n : Nat) (u : Nat × Nat × Nat) : upG G n u n = u := if_pos rfl
theorem upG_o {G : GF} {n j : Nat} {u : Nat × Nat × Nat} (h : j ≠ n) : upG G n u j = G j := if_neg h
def ew (k : Nat) (U : Nat → NU) : Nat → NU := fun j => if j < k ∧ (U j).2.2.2 = 0 then ((U j).1, (U j).2.1, (U j).2.2.1 + 1, 0) else U j
def fx (st : Nat) (U : Nat → NU) : Nat → GF
  | 0 => fun _ => (0, 0, 0)
  | k + 1 => if (U k).2.2.2 = 0 then upG (fx st U k) (cu U k) ((st + k) % 64, (U k).1, (U k).2.1) else fx st U k
def CFm (f : Nat → Nat → Int32) (r c n : Nat) (G : GF) : Prop := f r 0 = nI c ∧ f r 7 = nI n ∧ ∀ j, j < n → f (r + 1) j = nI (G j).1 ∧ f (r + 2) j = nI (G j).2.1 ∧ f (r + 3) j = nI (G j).2.2 ∧ f (r + 4) j = nI (ckN c (G j).1 (G j).2.1 (G j).2.2)
def sBind (r a b : Nat) : Prop := (a = r ∧ b = 7) ∨ (r + 1 ≤ a ∧ a ≤ r + 4)
theorem CFm.fr {f f' : Nat → Nat → Int32} {r c n : Nat} {G : GF} (h : CFm f r c n G) (h0 : ∀ a b, r ≤ a → a ≤ r + 4 → f' a b = f a b) : CFm f' r c n G := ⟨(h0 _ _ (by omega) (by omega)).trans h.1, (h0 _ _ (by omega) (by omega)).trans h.2.1, fun j hj => ⟨(h0 _ _ (by omega) (by omega)).trans (h.2.2 j hj).1, (h0 _ _ (by omega) (by omega)).trans (h.2.2 j hj).2.1, (h0 _ _ (by omega) (by omega)).trans (h.2.2 j hj).2.2.1, (h0 _ _ (by omega) (by omega)).trans (h.2.2 j hj).2.2.2⟩⟩
theorem k_bind {r c n nb v l : Nat} {G : GF} {h : HP} {Q : HP → Prop} (hc : c < 4) (hn : n < 8) (hG : CFm h.1 r c n G) (b1 : nb < 64) (b2 : v ≤ 999) (b3 : l ≤ 20) (hQ : ∀ h' : HP, h'.2 = h.2 → CFm h'.1 r c (n + 1) (upG G n (nb, v, l)) → Fr (sBind r) h.1 h'.1 → Q h') : P_X2_bind r (nI nb) (nI v) (nI l) h Q := by
  obtain ⟨g0, g7, gj⟩ := hG
  unfold P_X2_bind
  rw [show (8 : Int32) = nI 8 from rfl, g7, n_ule (by omega) (by omega)]
  refine ⟨fun hz => absurd hz (by omega), fun _ => ?_⟩
  have e7 : (si h (r + 1) n (nI nb)).1 r 7 = nI n := by rw [si_o (by omega)]; exact g7
  have e7' : (si (si h (r + 1) n (nI nb)) (r + 2) n (nI v)).1 r 7 = nI n := by rw [si_o (by omega)]; exact e7
  have e7'' : (si (si (si h (r + 1) n (nI nb)) (r + 2) n (nI v)) (r + 3) n (nI l)).1 r 7 = nI n := by rw [si_o (by omega)]; exact e7'
  have e0 : (si (si (si h (r + 1) n (nI nb)) (r + 2) n (nI v)) (r + 3) n (nI l)).1 r 0 = nI c := by rw [si_o (by omega), si_o (by omega), si_o (by omega)]; exact g0
  have hi : vp_in (nI n) 8 := n_in hn (by omega)
  rw [n_cl (by omega), e7, n_cl (by omega), e7', n_cl (by omega), e7'', n_cl (by omega), e0]
  refine ⟨hi, hi, hi, p_check (by omega) (by omega) (by omega) (by omega) ⟨hi, ?_⟩⟩
  rw [si_o (by omega), e7'', nI_1]
  refine hQ _ rfl ⟨?_, ?_, fun j hj => ?_⟩ ?_
  · rw [si_p (by decide), si_o (by omega)]; exact e0
  · rw [si_s]
  · by_cases hjn : j = n
    · subst hjn
      rw [upG_s]
      refine ⟨?_, ?_, ?_, ?_⟩
      · rw [si_o (by omega), si_o (by omega), si_o (by omega), si_o (by omega), si_s]
      · rw [si_o (by omega), si_o (by omega), si_o (by omega), si_s]
      · rw [si_o (by omega), si_o (by omega), si_s]
      · rw [si_o (by omega), si_s]
    · rw [upG_o hjn]
      obtain ⟨q1, q2, q3, q4⟩ := gj j (by omega)
      have z : ∀ a, r + 1 ≤ a → (si (si (si (si (si h (r + 1) n (nI nb)) (r + 2) n (nI v)) (r + 3) n (nI l)) (r + 4) n (nI (ckN c nb v l))) r 7 (nI (n + 1))).1 a j = h.1 a j := fun a ha => by
        rw [si_o (by omega), si_p hjn, si_p hjn, si_p hjn, si_p hjn]
      exact ⟨(z _ (by omega)).trans q1, (z _ (by omega)).trans q2, (z _ (by omega)).trans q3, (z _ (by omega)).trans q4⟩
  · exact (Fr.si (Or.inr ⟨by omega, by omega⟩)).tr ((Fr.si (Or.inr ⟨by omega, by omega⟩)).tr ((Fr.si (Or.inr ⟨by omega, by omega⟩)).tr ((Fr.si (Or.inr ⟨by omega, by omega⟩)).tr (Fr.si (Or.inl ⟨rfl, rfl⟩)))))
def sGv (N a b : Nat) : Prop := (a = N ∧ (b = 5 ∨ b = 6)) ∨ (N + 1 ≤ a ∧ a ≤ N + 6)
theorem k_giveNext {N st sp qn : Nat} {e : Nat → NU} {q : Nat → Nat × Nat} {h : HP} {Q : HP → Prop} (hb : CB h.1 N (st, sp, e)) (hq : CQ h.1 N (qn + 1) q) (hsp : sp < 12) (hQ : ∀ h' : HP, h'.2 = h.2 → CB h'.1 N (st, sp + 1, upE e sp ((q 0).1, (q 0).2, 0, 0)) → CQ h'.1 N qn (fun i => q (i + 1)) → Fr (sGv N) h.1 h'.1 → Q h') : P_X3_giveNext N h Q := by
  have hst : st < 64 := hb.1
  have hqn := hq.1
  obtain ⟨q1, q2⟩ := hq.2.2 0 (by omega)
  unfold P_X3_giveNext
  rw [show h.1 N 5 = nI ((st + sp) % 64) from hb.2.2.2.1, p_slot (by omega), show (st + sp) % 64 % 16 = (st + sp) % 16 by omega]
  have hi : vp_in (nI ((st + sp) % 16)) 16 := n_in (by omega) (by omega)
  refine ⟨hi, hi, hi, hi, ?_⟩
  rw [n_cl (by omega)]
  rw [q1, si_o (show N + 2 ≠ N + 3 by omega), q2, si_o (show N ≠ N + 6 by omega), si_o (show N ≠ N + 5 by omega), si_o (show N ≠ N + 4 by omega), si_o (show N ≠ N + 3 by omega), show h.1 N 5 = nI ((st + sp) % 64) from hb.2.2.2.1, nI_1, p_round (by omega)]
  refine lpc2 fun X hX => ?_
  let H := si (si (si (si (si h (N + 3) ((st + sp) % 16) (nI (q 0).1)) (N + 4) ((st + sp) % 16) (nI (q 0).2)) (N + 5) ((st + sp) % 16) 0) (N + 6) ((st + sp) % 16) 0) N 5 (nI (((st + sp) % 64 + 1) % 64))
  have hH : H = si (si (si (si (si h (N + 3) ((st + sp) % 16) (nI (q 0).1)) (N + 4) ((st + sp) % 16) (nI (q 0).2)) (N + 5) ((st + sp) % 16) 0) (N + 6) ((st + sp) % 16) 0) N 5 (nI (((st + sp) % 64 + 1) % 64)) := rfl
  have H2 : H.2 = h.2 := rfl
  have HB : CB H.1 N (st, sp + 1, upE e sp ((q 0).1, (q 0).2, 0, 0)) := by
    refine ⟨hst, show sp + 1 ≤ 12 by omega, ?_, ?_, fun k hk => ?_⟩
    · show H.1 N 4 = nI st
      rw [hH, si_p (by decide), si_o (by omega), si_o (by omega), si_o (by omega), si_o (by omega)]; exact hb.2.2.1
    · rw [hH, si_s]
      show nI _ = nI ((st + (sp + 1)) % 64)
      congr 1; omega
    · show CE H.1 N ((st + k) % 16) (upE e sp ((q 0).1, (q 0).2, 0, 0) k)
      have hk' : k < sp + 1 := hk
      by_cases hks : k = sp
      · subst hks
        rw [upE_s, hH]
        refine ⟨?_, ?_, ?_, ?_⟩
        · rw [si_o (by omega), si_o (by omega), si_o (by omega), si_o (by omega), si_s]
        · rw [si_o (by omega), si_o (by omega), si_o (by omega), si_s]
        · rw [si_o (by omega), si_o (by omega), si_s]; rfl
        · rw [si_o (by omega), si_s]; rfl
      · rw [upE_o hks, hH]
        refine CE.fr (hb.2.2.2.2 k (by show k < sp; omega)) fun a h1 h2 => ?_
        have hne : (st + k) % 16 ≠ (st + sp) % 16 := by omega
        rw [si_o (by omega), si_p hne, si_p hne, si_p hne, si_p hne]
  have HF : ∀ a b, a ≤ N + 2 → ¬ (a = N ∧ b = 5) → H.1 a b = h.1 a b := fun a b h1 h2 => by
    rw [hH, si_1, if_neg h2, si_o (by omega), si_o (by omega), si_o (by omega), si_o (by omega)]
  have HFr : Fr (sGv N) h.1 H.1 := (Fr.si (Or.inr ⟨by omega, by omega⟩)).tr ((Fr.si (Or.inr ⟨by omega, by omega⟩)).tr ((Fr.si (Or.inr ⟨by omega, by omega⟩)).tr ((Fr.si (Or.inr ⟨by omega, by omega⟩)).tr (Fr.si (Or.inl ⟨rfl, Or.inl rfl⟩)))))
  have key : ∀ m n (h1 : HP), n + 1 + m = qn + 1 → h1.2 = h.2 → (∀ a b, a ≠ N + 1 → a ≠ N + 2 → h1.1 a b = H.1 a b) → (∀ i, i < n → h1.1 (N + 1) i = nI (q (i + 1)).1 ∧ h1.1 (N + 2) i = nI (q (i + 1)).2) → (∀ i, n < i → i < qn + 1 → h1.1 (N + 1) i = nI (q i).1 ∧ h1.1 (N + 2) i = nI (q i).2) → X (nI (n + 1)) h1 := by
    intro m
    induction m with
    | zero =>
      intro n h1 hn e1 e2 e3 e4
      have : n = qn := by omega
      subst this
      have e6 : h1.1 N 6 = nI (n + 1) := by rw [e2 _ _ (by omega) (by omega), HF _ _ (by omega) (by omega)]; exact hq.2.1
      refine hX _ _ ⟨fun _ => ?_, fun hz => absurd ?_ hz⟩
      · rw [e6, n_m1 (by omega), show n + 1 - 1 = n by omega]
        refine hQ _ e1 ?_ ⟨by omega, si_s .., fun i hi => ?_⟩ ?_
        · exact HB.fr ((si_p (by decide) _).trans (e2 _ _ (by omega) (by omega))) ((si_p (by decide) _).trans (e2 _ _ (by omega) (by omega))) fun a s h1 h2 => (si_o (by omega) _).trans (e2 _ _ (by omega) (by omega))
        · rw [si_o (by omega), si_o (by omega)]
          exact e3 i hi
        · refine HFr.tr (Fr.tr (g := h1.1) (fun a b hz => e2 a b ?_ ?_) (Fr.si (Or.inl ⟨rfl, Or.inr rfl⟩)))
          · intro z; exact hz (Or.inr ⟨by omega, by omega⟩)
          · intro z; exact hz (Or.inr ⟨by omega, by omega⟩)
      · rw [e6, n_ule (by omega) (by omega)]; exact Nat.le_refl _
    | succ m ih =>
      intro n h1 hn e1 e2 e3 e4
      have e6 : h1.1 N 6 = nI (qn + 1) := by rw [e2 _ _ (by omega) (by omega), HF _ _ (by omega) (by omega)]; exact hq.2.1
      refine hX _ _ ⟨fun hz => ?_, fun _ => ?_⟩
      · rw [e6, n_ule (by omega) (by omega)] at hz; omega
      · have hi1 : vp_in (nI (n + 1)) 24 := n_in (by omega) (by omega)
        have hi0 : vp_in (nI n) 24 := n_in (by omega) (by omega)
        obtain ⟨w1, w2⟩ := e4 (n + 1) (by omega) (by omega)
        rw [show nI (n + 1) - 1 = nI n from nI_m1, n_cl (by omega), n_cl (by omega), w1, si_o (show N + 2 ≠ N + 1 by omega), w2, nI_1]
        refine ⟨hi1, hi0, hi1, hi0, ih (n + 1) _ (by omega) e1 (fun a b z1 z2 => ?_) (fun i hi => ?_) (fun i hi hi2 => ?_)⟩
        · rw [si_o z2, si_o z1]; exact e2 a b z1 z2
        · by_cases hin : i = n
          · subst hin
            exact ⟨by rw [si_o (by omega), si_s], si_s ..⟩
          · rw [si_p hin, si_p hin, si_p hin, si_p hin]
            exact e3 i (by omega)
        · rw [si_p (by omega), si_p (by omega), si_p (by omega), si_p (by omega)]
          exact e4 i (by omega) hi2
  have k0 := key qn 0 H (by omega) H2 (fun _ _ _ _ => rfl) (fun i hi => absurd hi (by omega)) (fun i _ hi2 => by rw [HF _ _ (by omega) (by omega), HF _ _ (by omega) (by omega)]; exact hq.2.2 i hi2)
  exact k0
