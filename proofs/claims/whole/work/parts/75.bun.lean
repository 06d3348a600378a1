/-! deliver: a bundle that arrives. -/
def vX (dm : Nat) (G : GF) (j : Nat) : Nat := (G j).2.1 ^^^ (dm / 2 ^ j % 2)
def okF (c dm : Nat) (G : GF) (j : Nat) : Prop := ckN c (G j).1 (vX dm G j) (G j).2.2 = ckN c (G j).1 (G j).2.1 (G j).2.2
theorem okF_dec (c dm : Nat) (G : GF) (j : Nat) : okF c dm G j ∨ ¬ okF c dm G j := Classical.em _
noncomputable def rcN (c dm : Nat) (G : GF) : Nat → Nat
  | 0 => 0
  | n + 1 => rcN c dm G n + @ite Nat (okF c dm G n) (Classical.propDecidable _) 1 0
noncomputable def fyN (c dm : Nat) (G : GF) : Nat → FYS → FYS
  | 0, y => y
  | n + 1, y => @ite FYS (okF c dm G n) (Classical.propDecidable _) (comesA (G n).1 (vX dm G n) (fyN c dm G n y)) (fyN c dm G n y)
def upC (m : Nat → Nat × Nat) (i : Nat) (z : Nat × Nat) : Nat → Nat × Nat := fun j => if j = i then z else m j
noncomputable def cmN (c dm : Nat) (G : GF) : Nat → Nat → Nat × Nat
  | 0 => fun _ => (0, 0)
  | n + 1 => @ite (Nat → Nat × Nat) (okF c dm G n) (Classical.propDecidable _) (upC (cmN c dm G n) (rcN c dm G n) ((G n).1, vX dm G n)) (cmN c dm G n)
theorem rcN_t {c dm n : Nat} {G : GF} (h : okF c dm G n) : rcN c dm G (n + 1) = rcN c dm G n + 1 := by
  show rcN c dm G n + @ite Nat (okF c dm G n) (Classical.propDecidable _) 1 0 = _
  rw [if_pos h]
theorem rcN_f {c dm n : Nat} {G : GF} (h : ¬ okF c dm G n) : rcN c dm G (n + 1) = rcN c dm G n := by
  show rcN c dm G n + @ite Nat (okF c dm G n) (Classical.propDecidable _) 1 0 = _
  rw [if_neg h]; rfl
theorem fyN_t {c dm n : Nat} {G : GF} {y : FYS} (h : okF c dm G n) : fyN c dm G (n + 1) y = comesA (G n).1 (vX dm G n) (fyN c dm G n y) := by
  show @ite FYS (okF c dm G n) (Classical.propDecidable _) _ _ = _
  rw [if_pos h]
theorem fyN_f {c dm n : Nat} {G : GF} {y : FYS} (h : ¬ okF c dm G n) : fyN c dm G (n + 1) y = fyN c dm G n y := by
  show @ite FYS (okF c dm G n) (Classical.propDecidable _) _ _ = _
  rw [if_neg h]
theorem cmN_t {c dm n : Nat} {G : GF} (h : okF c dm G n) : cmN c dm G (n + 1) = upC (cmN c dm G n) (rcN c dm G n) ((G n).1, vX dm G n) := by
  show @ite (Nat → Nat × Nat) (okF c dm G n) (Classical.propDecidable _) _ _ = _
  rw [if_pos h]
theorem cmN_f {c dm n : Nat} {G : GF} (h : ¬ okF c dm G n) : cmN c dm G (n + 1) = cmN c dm G n := by
  show @ite (Nat → Nat × Nat) (okF c dm G n) (Classical.propDecidable _) _ _ = _
  rw [if_neg h]
theorem rcN_le {c dm : Nat} {G : GF} : ∀ n, rcN c dm G n ≤ n := by
  intro n
  induction n with
  | zero => exact Nat.le_refl _
  | succ n ih =>
    rcases okF_dec c dm G n with h | h
    · rw [rcN_t h]; omega
    · rw [rcN_f h]; omega
def gyN (m : Nat → Nat × Nat) : Nat → FYS → FYS
  | 0, y => y
  | n + 1, y => comesA (m n).1 (m n).2 (gyN m n y)
theorem gyN_cg {m m' : Nat → Nat × Nat} {y : FYS} : ∀ n, (∀ i, i < n → m i = m' i) → gyN m n y = gyN m' n y := by
  intro n
  induction n with
  | zero => exact fun _ => rfl
  | succ n ih =>
    intro h
    show comesA (m n).1 (m n).2 (gyN m n y) = comesA (m' n).1 (m' n).2 (gyN m' n y)
    rw [h n (by omega), ih fun i hi => h i (by omega)]
theorem gy_fy {c dm : Nat} {G : GF} {y : FYS} : ∀ n, gyN (cmN c dm G n) (rcN c dm G n) y = fyN c dm G n y := by
  intro n
  induction n with
  | zero => rfl
  | succ n ih =>
    rcases okF_dec c dm G n with h | h
    · rw [rcN_t h, fyN_t h, cmN_t h]
      show comesA (upC (cmN c dm G n) (rcN c dm G n) ((G n).1, vX dm G n) (rcN c dm G n)).1 (upC (cmN c dm G n) (rcN c dm G n) ((G n).1, vX dm G n) (rcN c dm G n)).2 (gyN (upC (cmN c dm G n) (rcN c dm G n) ((G n).1, vX dm G n)) (rcN c dm G n) y) = _
      have q := gyN_cg (m := upC (cmN c dm G n) (rcN c dm G n) ((G n).1, vX dm G n)) (m' := cmN c dm G n) (y := y) (rcN c dm G n) fun i hi => by unfold upC; rw [if_neg (by omega)]
      rw [q, ih]
      unfold upC
      rw [if_pos rfl]
    · rw [rcN_f h, fyN_f h, cmN_f h]; exact ih
theorem vX_le {dm j : Nat} {G : GF} (h : (G j).2.1 ≤ 999) : vX dm G j ≤ 1500 := by
  have : vX dm G j < 2 ^ 10 := Nat.xor_lt_two_pow (by omega) (by have := Nat.mod_lt (dm / 2 ^ j) (show 0 < 2 by omega); omega)
  omega
theorem fy_ok {c dm : Nat} {G : GF} {y : FYS} (ok : YOk y) : ∀ n, (∀ j, j < n → (G j).1 < 64 ∧ (G j).2.1 ≤ 999 ∧ (G j).2.2 ≤ 20) → YOk (fyN c dm G n y) := by
  intro n
  induction n with
  | zero => exact fun _ => ok
  | succ n ih =>
    intro hG
    have q := ih fun j hj => hG j (by omega)
    rcases okF_dec c dm G n with h | h
    · rw [fyN_t h]; exact comes_ok q (hG n (by omega)).1 (vX_le (hG n (by omega)).2.1)
    · rw [fyN_f h]; exact q
theorem cm_ok {c dm : Nat} {G : GF} : ∀ n, (∀ j, j < n → (G j).1 < 64 ∧ (G j).2.1 ≤ 999 ∧ (G j).2.2 ≤ 20) → ∀ i, i < rcN c dm G n → (cmN c dm G n i).1 < 64 ∧ (cmN c dm G n i).2 ≤ 1500 := by
  intro n
  induction n with
  | zero => exact fun _ i hi => absurd hi (Nat.not_lt_zero i)
  | succ n ih =>
    intro hG i hi
    have q := ih fun j hj => hG j (by omega)
    rcases okF_dec c dm G n with h | h
    · rw [rcN_t h] at hi
      rw [cmN_t h]
      unfold upC
      by_cases z : i = rcN c dm G n
      · rw [if_pos z]; exact ⟨(hG n (by omega)).1, vX_le (hG n (by omega)).2.1⟩
      · rw [if_neg z]; exact q i (by omega)
    · rw [rcN_f h] at hi
      rw [cmN_f h]
      exact q i hi
theorem out_n {n : Nat} (hn : n ≤ 8) : nI n < 0 ∨ nI n - 1 < nI n := by
  cases n with
  | zero => exact Or.inr (by decide)
  | succ m => exact Or.inr (by rw [nI_m1, n_ult (by omega) (by omega)]; omega)
theorem ckN_lt {c nb v l : Nat} (hc : c < 256) (hn : nb < 256) (hv : v < 65536) (hl : l < 256) : ckN c nb v l < 256 := tnN_lt 8 _ (x8lt (tnN_lt 8 _ (x8lt (tnN_lt 8 _ (x8lt (tnN_lt 8 _ (x8lt (tnN_lt 8 _ hc) hn)) (by omega))) (by omega))) hl)
theorem n_dmg {dm j v : Nat} (hd : dm ≤ 255) (hj : j < 8) : nI v ^^^ (nI dm >>> (nI j &&& 31) &&& 1) = nI (v ^^^ (dm / 2 ^ j % 2)) := by
  have hq : dm / 2 ^ j ≤ dm := Nat.div_le_self _ _
  rw [n_shr (by omega) (by omega), n_and1 (by omega), nx_xor']
theorem k_bunLoop {r c n dm : Nat} {G : GF} {h : HP} {Q : Int32 → HP → Prop} (I : Nat → HP → Prop) (hc4 : c < 4) (hn : n ≤ 8) (gok : ∀ j, j < n → (G j).1 < 64 ∧ (G j).2.1 ≤ 999 ∧ (G j).2.2 ≤ 20) (hdm : dm ≤ 255) (hI0 : I 0 h) (hcf : ∀ j h', I j h' → CFm h'.1 r c n G) (hst : ∀ j h', j < n → okF c dm G j → I j h' → ∀ Q' : HP → Prop, (∀ h'', I (j + 1) h'' → Q' h'') → P_X1_comes (41 + 11 * c) (nI (G j).1) (nI (vX dm G j)) h' Q') (hsk : ∀ j h', ¬ okF c dm G j → I j h' → I (j + 1) h') (hQ : ∀ h', I n h' → P_X8_bundleArrives_j103 0 r (nI (rcN c dm G n)) h' Q) : P_X8_bundleArrives r (nI dm) h Q := by
  have c0 := (hcf 0 h hI0).1
  unfold P_X8_bundleArrives
  rw [c0, n_cl (by omega)]
  refine ⟨n_in hc4 (by omega), lpc3 fun Y hY => ?_⟩
  have key : ∀ d j (h1 : HP), j + d = n → I j h1 → Y (nI (rcN c dm G j)) (nI j) h1 := by
    intro d
    induction d with
    | zero =>
      intro j h1 hj hi
      have : j = n := by omega
      subst this
      have cf := hcf _ _ hi
      exact hY _ _ _ ⟨fun _ => hQ h1 hi, fun _ => k_hasFrame0 cf.2.1 (out_n hn) (bz_f2 (hQ h1 hi))⟩
    | succ d ih =>
      intro j h1 hj hi
      have cf := hcf _ _ hi
      obtain ⟨g1, g2, g3⟩ := gok j (by omega)
      obtain ⟨x1, x2, x3, x4⟩ := cf.2.2 j (by omega)
      have hv : vp_in (nI j) 8 := n_in (by omega) (by omega)
      have v15 := vX_le (dm := dm) g2
      have hd : nI (G j).2.1 ^^^ (nI dm >>> (nI j &&& 31) &&& 1) = nI (vX dm G j) := n_dmg hdm (by omega)
      refine hY _ _ _ (bc_f ?_ ?_)
      · rw [show (8 : Int32) = nI 8 from rfl, n_ule (by omega) (by omega)]; omega
      refine k_hasFrame1 cf.2.1 hn (by omega) (bz_t2 ⟨hv, hv, hv, ?_⟩)
      rw [n_cl (by omega), x1, x2, x3, cf.1, hd]
      refine p_check (by omega) (by omega) (by omega) (by omega) ⟨hv, ?_⟩
      rw [x4, x1, nI_1]
      have q1 := ckN_lt (c := c) (nb := (G j).1) (v := vX dm G j) (l := (G j).2.2) (by omega) (by omega) (by omega) (by omega)
      have q2 := ckN_lt (c := c) (nb := (G j).1) (v := (G j).2.1) (l := (G j).2.2) (by omega) (by omega) (by omega) (by omega)
      rcases okF_dec c dm G j with ok | ok
      · refine bc_t' (by rw [show ckN c (G j).1 (vX dm G j) (G j).2.2 = _ from ok]) ⟨hv, ?_⟩
        refine hst j h1 (by omega) ok hi _ fun h2 hi2 => ?_
        have := ih (j + 1) h2 (by omega) hi2
        rw [rcN_t ok] at this
        rw [nI_1]
        exact this
      · refine bc_f' (by rw [n_ueq (by omega) (by omega)]; exact ok) ?_
        have := ih (j + 1) h1 (by omega) (hsk j h1 ok hi)
        rw [rcN_f ok] at this
        exact this
  exact key n 0 h (by omega) hI0
theorem m_bunLoop {p c n dm : Nat} {G : GF} {h : HP} {K : Int32 → HP → Prop} (hp : p < 4) (hc4 : c < 4) (hn : n ≤ 8) (gok : ∀ j, j < n → (G j).1 < 64 ∧ (G j).2.1 ≤ 999 ∧ (G j).2.2 ≤ 20) (hdm : dm ≤ 255) (hG : MFm h.1 p c n G) (hK : ∀ h' : HP, h'.2 = h.2 → (∀ a b, a ≠ 113 → a ≠ 114 → h'.1 a b = h.1 a b) → (∀ i, i < rcN c dm G n → h'.1 113 i = nI (cmN c dm G n i).1 ∧ h'.1 114 i = nI (cmN c dm G n i).2) → K (nI (rcN c dm G n)) h') : Lp3 (fun X_21 (i5_21 : Int32) (i6_21 : Int32) (h_21 : HP) => (vp_in (nI (8 * p + 7)) 128) ∧ ((((h_21.1 111 (8 * p + 7)) ≤ i6_21) → (K i5_21 h_21)) ∧ ((¬ (h_21.1 111 (8 * p + 7)) ≤ i6_21) → ((vp_in (((nI (4 * (8 * p))) + (4 * i6_21)) + 1) 512) ∧ ((vp_in ((nI (4 * (8 * p))) + (4 * i6_21)) 512) ∧ ((vp_in (((nI (4 * (8 * p))) + (4 * i6_21)) + 2) 512) ∧ (P_X9_checkOf (nI c) (h_21.1 112 ((nI (4 * (8 * p))) + (4 * i6_21)).toNatClampNeg) ((h_21.1 112 (((nI (4 * (8 * p))) + (4 * i6_21)) + 1).toNatClampNeg) ^^^ (((nI dm) >>> (i6_21 &&& 31)) &&& 1)) (h_21.1 112 (((nI (4 * (8 * p))) + (4 * i6_21)) + 2).toNatClampNeg) h_21 (fun (v_83 : Int32) (h_83 : HP) => (vp_in (((nI (4 * (8 * p))) + (4 * i6_21)) + 3) 512) ∧ (((¬ v_83 = (h_83.1 112 (((nI (4 * (8 * p))) + (4 * i6_21)) + 3).toNatClampNeg)) → (X_21 i5_21 (i6_21 + 1) h_83)) ∧ ((v_83 = (h_83.1 112 (((nI (4 * (8 * p))) + (4 * i6_21)) + 3).toNatClampNeg)) → ((vp_in ((nI (4 * (8 * p))) + (4 * i6_21)) 512) ∧ ((vp_in i5_21 8) ∧ ((vp_in i5_21 8) ∧ (X_21 (i5_21 + 1) (i6_21 + 1) (si (si h_83 113 i5_21.toNatClampNeg (h_83.1 112 ((nI (4 * (8 * p))) + (4 * i6_21)).toNatClampNeg)) 114 i5_21.toNatClampNeg ((h_21.1 112 (((nI (4 * (8 * p))) + (4 * i6_21)) + 1).toNatClampNeg) ^^^ (((nI dm) >>> (i6_21 &&& 31)) &&& 1))))))))))))))))) 0 0 h := by
  refine lpc3 fun Y hY => ?_
  have key : ∀ d j (h1 : HP), j + d = n → h1.2 = h.2 → (∀ a b, a ≠ 113 → a ≠ 114 → h1.1 a b = h.1 a b) → (∀ i, i < rcN c dm G j → h1.1 113 i = nI (cmN c dm G j i).1 ∧ h1.1 114 i = nI (cmN c dm G j i).2) → Y (nI (rcN c dm G j)) (nI j) h1 := by
    intro d
    induction d with
    | zero =>
      intro j h1 hj e1 e2 e3
      have : j = n := by omega
      subst this
      refine hY _ _ _ ⟨n_in (by omega) (by omega), bc_t ?_ (hK h1 e1 e2 e3)⟩
      rw [e2 _ _ (by omega) (by omega), hG.1]; exact Int32.le_refl _
    | succ d ih =>
      intro j h1 hj e1 e2 e3
      obtain ⟨g1, g2, g3⟩ := gok j (by omega)
      obtain ⟨x1, x2, x3, x4⟩ := hG.2 j (by omega)
      have E : ∀ b, h1.1 112 b = h.1 112 b := fun b => e2 _ _ (by omega) (by omega)
      have v15 := vX_le (dm := dm) g2
      have rle := rcN_le (c := c) (dm := dm) (G := G) j
      have hd : nI (G j).2.1 ^^^ (nI dm >>> (nI j &&& 31) &&& 1) = nI (vX dm G j) := n_dmg hdm (by omega)
      have i0 : nI (4 * (8 * p)) + 4 * nI j = nI (32 * p + 4 * j) := by rw [n4, nI_add]; congr 1; omega
      have i1 : nI (32 * p + 4 * j) + 1 = nI (32 * p + 4 * j + 1) := n_addl _ 1 rfl
      have i2 : nI (32 * p + 4 * j) + 2 = nI (32 * p + 4 * j + 2) := n_addl _ 2 rfl
      have i3 : nI (32 * p + 4 * j) + 3 = nI (32 * p + 4 * j + 3) := n_addl _ 3 rfl
      refine hY _ _ _ ⟨n_in (by omega) (by omega), bc_f ?_ ?_⟩
      · rw [e2 _ _ (by omega) (by omega), hG.1, n_ule (by omega) (by omega)]; omega
      rw [i0, i1, i2, i3, n_cl (by omega), n_cl (by omega), n_cl (by omega), n_cl (by omega), E, E, E, x1, x2, x3, hd]
      refine ⟨n_in (by omega) (by omega), n_in (by omega) (by omega), n_in (by omega) (by omega), ?_⟩
      refine p_checkM (by omega) (by omega) (by omega) (by omega) ⟨n_in (by omega) (by omega), ?_⟩
      rw [E, E, x4, x1, nI_1]
      have q1 := ckN_lt (c := c) (nb := (G j).1) (v := vX dm G j) (l := (G j).2.2) (by omega) (by omega) (by omega) (by omega)
      have q2 := ckN_lt (c := c) (nb := (G j).1) (v := (G j).2.1) (l := (G j).2.2) (by omega) (by omega) (by omega) (by omega)
      rcases okF_dec c dm G j with ok | ok
      · refine bc_t' (by rw [show ckN c (G j).1 (vX dm G j) (G j).2.2 = _ from ok]) ⟨n_in (by omega) (by omega), n_in (by omega) (by omega), n_in (by omega) (by omega), ?_⟩
        rw [n_cl (by omega), nI_1]
        have := ih (j + 1) (si (si h1 113 (rcN c dm G j) (nI (G j).1)) 114 (rcN c dm G j) (nI (vX dm G j))) (by omega) e1 (fun a b z1 z2 => by rw [si_o z2, si_o z1]; exact e2 a b z1 z2) (fun i hi => ?_)
        · rw [rcN_t ok] at this
          exact this
        · rw [rcN_t ok] at hi
          rw [cmN_t ok]
          unfold upC
          by_cases z : i = rcN c dm G j
          · rw [if_pos z, z, si_o (by decide), si_s, si_s]; exact ⟨rfl, rfl⟩
          · rw [if_neg z, si_o (by decide), si_p z, si_p z, si_o (by decide)]; exact e3 i (by omega)
      · refine bc_f' (by rw [n_ueq (by omega) (by omega)]; exact ok) ?_
        have := ih (j + 1) h1 (by omega) e1 e2 (by rw [rcN_f ok, cmN_f ok]; exact e3)
        rw [rcN_f ok] at this
        exact this
  exact key n 0 h (by omega) rfl (fun _ _ _ _ => rfl) fun i hi => absurd hi (Nat.not_lt_zero i)
theorem m_bunLoop2 {c m : Nat} {cm : Nat → Nat × Nat} {y : FYS} {h : HP} {K : HP → Prop} (hc4 : c < 4) (hm8 : m ≤ 8) (hcm : ∀ i, i < m → (cm i).1 < 64 ∧ (cm i).2 ≤ 1500) (hce : ∀ i, i < m → h.1 113 i = nI (cm i).1 ∧ h.1 114 i = nI (cm i).2) (hy : MFar h.1 c y) (ok : YOk y) (hK : ∀ h' : HP, h'.2 = h.2 → MFar h'.1 c (gyN cm m y) → Fr (sFarM c) h.1 h'.1 → K h') : Lp2 (fun X_167 (i6_167 : Int32) (h_167 : HP) => (((nI m) ≤ i6_167) → (K h_167)) ∧ ((¬ (nI m) ≤ i6_167) → ((vp_in i6_167 8) ∧ ((vp_in i6_167 8) ∧ (P_X9_comesNumber (nI c) (h_167.1 113 i6_167.toNatClampNeg) (h_167.1 114 i6_167.toNatClampNeg) h_167 (fun (h_191 : HP) => X_167 (i6_167 + 1) h_191)))))) 0 h := by
  refine lpc2 fun Y hY => ?_
  have key : ∀ d j (h1 : HP), j + d = m → h1.2 = h.2 → MFar h1.1 c (gyN cm j y) → YOk (gyN cm j y) → Fr (sFarM c) h.1 h1.1 → Y (nI j) h1 := by
    intro d
    induction d with
    | zero =>
      intro j h1 hj e1 e2 e3 e4
      have : j = m := by omega
      subst this
      exact hY _ _ (bc_t (Int32.le_refl _) (hK h1 e1 e2 e4))
    | succ d ih =>
      intro j h1 hj e1 e2 e3 e4
      have hv : vp_in (nI j) 8 := n_in (by omega) (by omega)
      obtain ⟨x1, x2⟩ := hce j (by omega)
      obtain ⟨y1, y2⟩ := hcm j (by omega)
      refine hY _ _ (bc_f ?_ ⟨hv, hv, ?_⟩)
      · rw [n_ule (by omega) (by omega)]; omega
      rw [n_cl (by omega), e4 113 j (by unfold sFarM; omega), e4 114 j (by unfold sFarM; omega), x1, x2, nI_1]
      exact m_comes hc4 e2 e3 y1 y2 fun h2 g1 g2 g3 => ih (j + 1) h2 (by omega) (g1.trans e1) g2 (comes_ok e3 y1 y2) (e4.tr g3)
  exact key m 0 h (by omega) rfl hy ok Fr.rf
