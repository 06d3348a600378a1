/-! deliver: which letter is lost; what a letter that is taken leaves. -/
theorem rem_inv {hc hm h2 g2 : HP} {k p c : Nat} {X : Nat → LT} (hI : InvW hc hm) (l3 : LsOk hm.1 k X) (hp : p < k) (a1 : hc.1 3 0 = 1) (hcX : (X p).1.2.1 = c) (L1 : CLs h2 (k - 1) (rmX p X)) (L2 : MLs g2.1 (k - 1) (rmX p X)) (f : Fr (tC c) hc.1 h2.1) (g : Fr (tM c) hm.1 g2.1) (ht : ∀ j, j < 7 → h2.1 4 j = g2.1 80 j) (hN : RN h2 g2 c ∨ FrN hc hm h2 g2 c) (hF : RF h2 g2 c ∨ FrF hc hm h2 g2 c) : InvW h2 g2 ∧ LsOk g2.1 (k - 1) (rmX p X) ∧ ∀ i, i < k - 1 → (rmX p X i).1.2.1 ≠ c := by
  have hc4 : c < 4 := by rw [← hcX]; exact (l3.1 p hp).2.1
  obtain ⟨q1, q2⟩ := l3.rm hp
  rw [hcX] at q2
  have q3 : LsOk g2.1 (k - 1) (rmX p X) := q1.chg (c := c) (fun d hd z => ⟨g _ _ (by unfold tM iN iF; omega), g _ _ (by unfold tM iN iF; omega)⟩) (fun i hi z => absurd z (q2 i hi))
  refine ⟨hI.up1 hc4 f g ht hN hF ⟨k - 1, rmX p X, L1, L2, q3, fun z => ?_⟩, q3, q2⟩
  rw [f 3 0 (by unfold tC; omega), a1] at z
  exact absurd z (by decide)
theorem snd_inv {h2 g2 h3 g3 : HP} {k c : Nat} {X : Nat → LT} {x : LT} (hc4 : c < 4) (hI : InvW h2 g2) (l1 : CLs h2 k X) (l2 : MLs g2.1 k X) (l3 : LsOk g2.1 k X) (hk4 : k < 4) (a1 : h2.1 3 0 = 1) (hno : ∀ i, i < k → (X i).1.2.1 ≠ c) (hx : x.1.2.1 = c) (e : h3.2.1 = h2.2.1) (s5 : h3.1 5 2 = nI (k + 1)) (s0 : h3.1 4 0 = h2.1 4 0 + 1) (fr : Fr (sSd (h2.2.1 k)) h2.1 h3.1) (cl : CLt h3.1 (h2.2.1 k) x) (g39 : g3.1 78 39 = nI (k + 1)) (g80 : g3.1 80 0 = g2.1 80 0 + 1) (fm : Fr (sSnd k) g2.1 g3.1) (ml : MLt g3.1 k x) (ok : LtOk x) (xs : XS g2.1 x) : InvW h3 g3 := by
  have hr := lc_ge l1 (show k < 5 by omega)
  have hT := hI.2.2.1
  have xs' : XS g3.1 x := by
    unfold XS at xs ⊢
    rw [hx] at xs ⊢
    rw [fm 81 _ (by unfold sSnd; omega), fm 88 _ (by unfold sSnd; omega)]
    exact xs
  refine hI.up1 hc4 (fun a b z => fr a b (fun y => z (by unfold tC; unfold sSd at y; omega))) (fun a b z => fm a b (fun y => z (by unfold tM; unfold sSnd at y; omega))) (fun j hj => ?_) (Or.inr ⟨fun a b z1 z2 => fr a b (by unfold sSd; omega), fun a b z => fm a b (by have := iN_lo z; unfold sSnd; omega)⟩) (Or.inr ⟨fun a b z1 z2 => fr a b (by unfold sSd; omega), fun a b z => fm a b (by have := iF_lo z; unfold sSnd; omega)⟩) (RLt.add (hm := g2) (c := c) (x := x) l1 l2 l3 hk4 hno hx e s5 (fun a b z1 z2 z3 => fr a b (by unfold sSd; omega)) cl g39 (fun y hy => fm _ _ (by unfold sSnd; omega)) (fun y hy => fm _ _ (by unfold sSnd; omega)) ml ok (fun d hd z => ⟨fm _ _ (by unfold sSnd; omega), fm _ _ (by unfold sSnd; omega)⟩) xs' ((fr _ _ (by unfold sSd; omega)).trans a1))
  by_cases z : j = 0
  · subst z
    rw [s0, g80, hT.1 0 (by omega)]
  · rw [fr 4 j (by unfold sSd; omega), fm 80 j (by unfold sSnd; omega)]
    exact hT.1 j hj
/-- what is known of a letter that was taken -/
def DCx (hc hm h1 : HP) (k p : Nat) (X : Nat → LT) : Prop := InvW hc hm ∧ p < k ∧ CLs hc k X ∧ MLs hm.1 k X ∧ LsOk hm.1 k X ∧ hc.1 3 0 = 1 ∧ CLs h1 (k - 1) (rmX p X) ∧ h1.2.1 4 = hc.2.1 p ∧ ∀ a b, a ≠ 5 → h1.1 a b = hc.1 a b
theorem lost_inv {hc hm h1 g' : HP} {k p : Nat} {X : Nat → LT} (D : DCx hc hm h1 k p X) (L2 : MLs g'.1 (k - 1) (rmX p X)) (t1 : g'.1 80 1 = hm.1 80 1 + 1) (fm : Fr (fun a b => sDr a b ∨ (a = 80 ∧ b = 1)) hm.1 g'.1) : InvW (si h1 4 1 (h1.1 4 1 + 1)) g' := by
  obtain ⟨hI, hp, l1, l2, l3, a1, L1, -, E1⟩ := D
  have hT := hI.2.2.1
  have E : ∀ a b, a ≠ 5 → ¬ (a = 4 ∧ b = 1) → (si h1 4 1 (h1.1 4 1 + 1)).1 a b = hc.1 a b := fun a b z1 z2 => by rw [si_1, if_neg z2]; exact E1 a b z1
  have M : ∀ a b, ¬ sDr a b → ¬ (a = 80 ∧ b = 1) → g'.1 a b = hm.1 a b := fun a b z1 z2 => fm a b (fun z => z.elim z1 z2)
  have L1' : CLs (si h1 4 1 (h1.1 4 1 + 1)) (k - 1) (rmX p X) := L1.fr rfl (fun a b z1 z2 => si_o (by omega) _) (si_o (by decide) _)
  refine (rem_inv hI l3 hp a1 rfl L1' L2 (fun a b z => E a b (fun y => z (by unfold tC; omega)) (fun y => z (by unfold tC; omega))) (fun a b z => M a b (fun y => z (by unfold tM; unfold sDr at y; omega)) (fun y => z (by unfold tM; omega))) (fun j hj => ?_) (Or.inr ⟨fun a b z1 z2 => E a b (by omega) (by omega), fun a b z => M a b (by have := iN_lo z; unfold sDr; omega) (by have := iN_lo z; omega)⟩) (Or.inr ⟨fun a b z1 z2 => E a b (by omega) (by omega), fun a b z => M a b (by have := iF_lo z; unfold sDr; omega) (by have := iF_lo z; omega)⟩)).1
  by_cases z : j = 1
  · subst z
    rw [t1, si_s, E1 4 1 (by omega), hT.1 1 (by omega)]
  · rw [E 4 j (by omega) (by omega), M 80 j (by unfold sDr; omega) (by omega)]
    exact hT.1 j hj
def lostP (s dm : Nat) (lf : Int32) : Prop := (s ≠ 1 ∧ s ≠ 4 ∧ lf ≤ 0) ∨ (s ≠ 2 ∧ dm ≠ 0)
theorem nz {n m : Nat} (hn : n < 2 ^ 20) (hm : m < 2 ^ 20) {B : Int32} (hB : B = nI m) : (nI n = B) ↔ n = m := by
  subst hB
  rw [n_ueq (by omega) (by omega)]
theorem k_dlv {r s dm : Nat} {lf : Int32} {h : HP} {Q : Int32 → HP → Prop} (hr : h.1 r 1 = nI s) (hs : s ≤ 5) (hdm : dm ≤ 255) (hl : Lc h.1 lf) (hL : lostP s dm lf → P_X8_deliver_j90 0 h Q) (hK : ¬ lostP s dm lf → ((¬ s = 2 → (P_X8_arrives r h (fun (h_122 : HP) => Q 1 h_122))) ∧ (s = 2 → (P_X8_bundleArrives r (nI dm) h (fun (v_116 : Int32) (h_116 : HP) => Q v_116 h_116))))) : P_X2_goesToFarEnd r h (fun (v_38 : Int32) (h_38 : HP) => ((v_38 = 0) → P_X8_deliver_j58 0 (nI dm) r h_38 Q) ∧ ((¬ v_38 = 0) → (P_X0_isAwake h_38 (fun (v_48 : Int32) (h_48 : HP) => ((¬ v_48 = 0) → P_X8_deliver_j58 0 (nI dm) r h_48 Q) ∧ ((v_48 = 0) → P_X8_deliver_j61 0 (nI dm) r 1 h_48 Q))))) := by
  have z2 : (nI s = 2) ↔ s = 2 := nz (m := 2) (by omega) (by omega) rfl
  have z1 : (nI s = 1) ↔ s = 1 := nz (m := 1) (by omega) (by omega) rfl
  have z4 : (nI s = 4) ↔ s = 4 := nz (m := 4) (by omega) (by omega) rfl
  have z0 : (nI dm = 0) ↔ dm = 0 := nz (m := 0) (by omega) (by omega) rfl
  have J0 : (s = 1 ∨ s = 4 ∨ ¬ lf ≤ 0) → P_X8_deliver_j58 0 (nI dm) r h Q := by
    intro hg
    unfold P_X8_deliver_j58 P_X8_deliver_j61 P_X8_deliver_j77 P_X8_deliver_j80
    rw [hr, z2, z0]
    have G : (s = 2 ∨ dm = 0) → ¬ lostP s dm lf := by
      intro g1 g2
      unfold lostP at g2
      rcases g2 with ⟨a, b, c⟩ | ⟨a, b⟩
      · rcases hg with g | g | g
        · exact a g
        · exact b g
        · exact g c
      · rcases g1 with g | g
        · exact a g
        · exact b g
    refine ⟨fun y => bz_f1 (bz_f2 (hK (G (Or.inl y)))), fun y => ⟨fun y2 => bz_f1 (bz_f2 (hK (G (Or.inr y2)))), fun y2 => bz_f1 (bz_t2 (hL (Or.inr ⟨y, y2⟩)))⟩⟩
  have J1 : lostP s dm lf → P_X8_deliver_j61 0 (nI dm) r 1 h Q := by
    intro hg
    unfold P_X8_deliver_j61 P_X8_deliver_j77 P_X8_deliver_j80
    exact ⟨fun _ => bz_t1 (hL hg), fun _ => ⟨fun _ => bz_t1 (hL hg), fun _ => bz_t1 (hL hg)⟩⟩
  unfold P_X2_goesToFarEnd
  rw [hr, z1, z4]
  refine ⟨fun y => bz_f2 (J0 (Or.inl y)), fun y1 => ⟨fun y => bz_f2 (J0 (Or.inr (Or.inl y))), fun y4 => bz_t2 ?_⟩⟩
  refine hl h _ (fun _ => rfl) ⟨fun y => bz_f1 (J1 (Or.inl ⟨y1, y4, y⟩)), fun y => bz_t1 (J0 (Or.inr (Or.inr y)))⟩
theorem m_dlv {p s dm : Nat} {lf : Int32} {h : HP} {Q : Int32 → HP → Prop} (hs : s ≤ 5) (hdm : dm ≤ 255) (hl : Lf h.1 lf) (hl0 : lf ≤ 0 → lf = 0) (hL : lostP s dm lf → P_X9_loseNow (nI p) h (fun (v_75 : Int32) (h_75 : HP) => Q (-1) h_75)) (hK : ¬ lostP s dm lf → ((¬ s = 2 → (P_X9_comesOther (nI p) h (fun (h_95 : HP) => Q 1 h_95))) ∧ (s = 2 → (P_X9_comesBundle (nI p) (nI dm) h (fun (v_89 : Int32) (h_89 : HP) => Q v_89 h_89))))) : (((nI s) = 1) → (P_X9_deliver_j49 78 (nI p) (nI dm) (nI s) h Q)) ∧ ((¬ (nI s) = 1) → ((((nI s) = 4) → (P_X9_deliver_j49 78 (nI p) (nI dm) (nI s) h Q)) ∧ ((¬ (nI s) = 4) → (P_X9_deliver_j52 78 (nI p) (nI dm) (nI s) 1 h Q)))) := by
  have z2 : (nI s = 2) ↔ s = 2 := nz (m := 2) (by omega) (by omega) rfl
  have z1 : (nI s = 1) ↔ s = 1 := nz (m := 1) (by omega) (by omega) rfl
  have z4 : (nI s = 4) ↔ s = 4 := nz (m := 4) (by omega) (by omega) rfl
  have z0 : (nI dm = 0) ↔ dm = 0 := nz (m := 0) (by omega) (by omega) rfl
  have J0 : (s = 1 ∨ s = 4 ∨ ¬ lf ≤ 0) → P_X9_deliver_j64 78 (nI p) (nI dm) (nI s) h Q := by
    intro hg
    unfold P_X9_deliver_j64 P_X9_deliver_j81
    rw [z2, z0]
    have G : (s = 2 ∨ dm = 0) → ¬ lostP s dm lf := by
      intro g1 g2
      unfold lostP at g2
      rcases g2 with ⟨a, b, c⟩ | ⟨a, b⟩
      · rcases hg with g | g | g
        · exact a g
        · exact b g
        · exact g c
      · rcases g1 with g | g
        · exact a g
        · exact b g
    exact ⟨fun y => hK (G (Or.inl y)), fun y => ⟨fun y2 => hK (G (Or.inr y2)), fun y2 => hL (Or.inr ⟨y, y2⟩)⟩⟩
  rw [z1, z4]
  refine ⟨fun y => bz_f2 (J0 (Or.inl y)), fun y1 => ⟨fun y => bz_f2 (J0 (Or.inr (Or.inl y))), fun y4 => bz_t2 ?_⟩⟩
  refine hl h _ (fun _ _ => rfl) ⟨fun y => hL (Or.inl ⟨y1, y4, by rw [y]; exact Int32.le_refl _⟩), fun y => J0 (Or.inr (Or.inr fun y2 => y (hl0 y2)))⟩
