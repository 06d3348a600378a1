/-! Small steps; near, given. -/
theorem bz_t1 {A B : Prop} (h : A) : (¬ (1 : Int32) = 0 → A) ∧ ((1 : Int32) = 0 → B) := ⟨fun _ => h, fun z => absurd z (by decide)⟩
theorem bz_t2 {A B : Prop} (h : A) : ((1 : Int32) = 0 → B) ∧ (¬ (1 : Int32) = 0 → A) := ⟨fun z => absurd z (by decide), fun _ => h⟩
theorem bz_f1 {A B : Prop} (h : B) : (¬ (0 : Int32) = 0 → A) ∧ ((0 : Int32) = 0 → B) := ⟨fun z => absurd rfl z, fun _ => h⟩
theorem bz_f2 {A B : Prop} (h : B) : ((0 : Int32) = 0 → B) ∧ (¬ (0 : Int32) = 0 → A) := ⟨fun _ => h, fun z => absurd rfl z⟩
theorem bc_t {c A B : Prop} (hc : c) (h : A) : (c → A) ∧ (¬ c → B) := ⟨fun _ => h, fun z => absurd hc z⟩
theorem bc_t' {c A B : Prop} (hc : c) (h : A) : (¬ c → B) ∧ (c → A) := ⟨fun z => absurd hc z, fun _ => h⟩
theorem bc_f {c A B : Prop} (hc : ¬ c) (h : B) : (c → A) ∧ (¬ c → B) := ⟨fun z => absurd z hc, fun _ => h⟩
theorem bc_f' {c A B : Prop} (hc : ¬ c) (h : B) : (¬ c → B) ∧ (c → A) := ⟨fun _ => h, fun z => absurd z hc⟩
theorem bq_i {c : Prop} [Decidable c] {a b : Int32} {h : HP} {Q : Int32 → HP → Prop} (hQ : Q (if c then a else b) h) : (c → Q a h) ∧ (¬ c → Q b h) := ⟨fun z => by rw [if_pos z] at hQ; exact hQ, fun z => by rw [if_neg z] at hQ; exact hQ⟩
theorem wi_f {i a b : Int32} {h : HP} {Q : Int32 → HP → Prop} (hw : i < a ∨ b < i) (hQ : Q 0 h) : P_X8_within i a b h Q := (p_within ..).mpr (by rw [if_pos hw]; exact hQ)
theorem wi_t {i a b : Int32} {h : HP} {Q : Int32 → HP → Prop} (hw : ¬ (i < a ∨ b < i)) (hQ : Q 1 h) : P_X8_within i a b h Q := (p_within ..).mpr (by rw [if_neg hw]; exact hQ)
theorem wi_fM {i a b : Int32} {h : HP} {Q : Int32 → HP → Prop} (hw : i < a ∨ b < i) (hQ : Q 0 h) : P_X9_within i a b h Q := (p_withinM ..).mpr (by rw [if_pos hw]; exact hQ)
theorem wi_tM {i a b : Int32} {h : HP} {Q : Int32 → HP → Prop} (hw : ¬ (i < a ∨ b < i)) (hQ : Q 1 h) : P_X9_within i a b h Q := (p_withinM ..).mpr (by rw [if_neg hw]; exact hQ)
theorem wi_c (a b : Nat) {A B : Int32} (hA : A = nI a) (hB : B = nI b) (ha : a < 2 ^ 30) (hb : b < 2 ^ 30) (i : Int32) : (i < A ∨ B < i) ∨ ∃ n, (a ≤ n ∧ n ≤ b) ∧ i = nI n ∧ ¬ (i < A ∨ B < i) := by
  subst hA hB
  by_cases hw : i < nI a ∨ nI b < i
  · exact Or.inl hw
  · have h0 : ¬ i < 0 := fun z => hw (Or.inl (by
      rw [Int32.lt_iff_toInt_lt] at z ⊢
      rw [n_ti (by omega)]
      have : (0 : Int32).toInt = 0 := rfl
      omega))
    obtain ⟨n, hn, rfl⟩ := n_of h0
    have h1 : ¬ nI n < nI a := fun z => hw (Or.inl z)
    have h2 : ¬ nI b < nI n := fun z => hw (Or.inr z)
    rw [n_ult hn (by omega)] at h1
    rw [n_ult (by omega) hn] at h2
    exact Or.inr ⟨n, ⟨by omega, by omega⟩, rfl, hw⟩
theorem st_eq {hc hm : HP} (hI : InvW hc hm) {c : Nat} (hc4 : c < 4) : hc.1 (34 + 11 * c) 1 = hm.1 81 c := by
  rcases hI.2.2.2.1 c hc4 with ⟨s1, -, s3⟩ | ⟨s1, s2, -⟩ | ⟨s1, s2, -⟩
  · rw [s1, s3]
  · rw [s1, s2]
  · rw [s1, s2]
theorem st_opn {hc hm : HP} (hI : InvW hc hm) {c : Nat} (hc4 : c < 4) (s2 : hm.1 81 c = 2) : ∃ w tr st sp e qn q d, NOpn hc.1 hm.1 (34 + 11 * c) c w tr st sp e qn q d := by
  rcases hI.2.2.2.1 c hc4 with ⟨-, -, s3⟩ | ⟨-, s3, -⟩ | ⟨-, -, s3⟩
  · rw [s2] at s3; exact absurd s3 (by decide)
  · rw [s2] at s3; exact absurd s3 (by decide)
  · exact s3
theorem m_isOpen1 {c : Nat} {h : HP} {Q : Int32 → HP → Prop} (hc4 : c < 4) (s : h.1 81 c = 2) (hQ : Q 1 h) : P_X9_isOpen (nI c) h Q := ⟨n_in hc4 (by omega), bc_t' (by rw [n_cl (by omega)]; exact s) hQ⟩
theorem m_isOpen0 {c : Nat} {h : HP} {Q : Int32 → HP → Prop} (hc4 : c < 4) (s : ¬ h.1 81 c = 2) (hQ : Q 0 h) : P_X9_isOpen (nI c) h Q := ⟨n_in hc4 (by omega), bc_f' (by rw [n_cl (by omega)]; exact s) hQ⟩
theorem nearV {hc hm : HP} (hI : InvW hc hm) {c : Nat} (hc4 : c < 4) (i : Int32) : VV (P_X3_tell (34 + 11 * c) i) (P_X9_nearNow (nI c) i) hc hm := by
  have hic : vp_in (nI c) 4 := n_in hc4 (by omega)
  have hcl : (nI c).toNatClampNeg = c := n_cl (by omega)
  have hst := st_eq hI hc4
  by_cases i0 : i = 0
  · refine ⟨hm.1 81 c, fun Q hQ => ?_, fun h Q eh hQ => ?_⟩
    · exact bc_t' i0 (by rw [hst]; exact hQ)
    · exact bc_t' i0 ⟨hic, by rw [hcl, eh]; exact hQ⟩
  by_cases s2 : hm.1 81 c = 2
  · obtain ⟨w, tr, st, sp, e, qn, q, d, p1, p2, p3, p4, p5, p6, p7, p8, p9, p10, p11, p12, p13, p14, p15, p16, p17⟩ := st_opn hI hc4 s2
    have s1 : hc.1 (34 + 11 * c) 1 = 2 := hst.trans s2
    have hi : i.toInt = 1 ∨ i.toInt = 2 ∨ i.toInt = 3 ∨ i.toInt = 4 ∨ i.toInt = 5 ∨ i.toInt = 6 ∨ i.toInt = 7 ∨ i.toInt = 8 ∨ i.toInt < 1 ∨ 8 < i.toInt := by omega
    rcases hi with hi | hi | hi | hi | hi | hi | hi | hi | hi
    · refine ⟨nI w, fun Q hQ => ?_, fun h Q eh hQ => ?_⟩
      · exact bc_f' i0 (bc_t s1 ⟨fun _ => by rw [p4]; exact hQ, fun z => by omega, fun z => by omega, fun z => by omega, fun z => by omega, fun z => by omega, fun z => by omega, fun z => by omega, fun z => by omega⟩)
      · exact bc_f' i0 (m_isOpen1 hc4 (by rw [eh]; exact s2) (bz_t1 ⟨fun _ => ⟨hic, by rw [hcl, eh, p5]; exact hQ⟩, fun z => by omega, fun z => by omega, fun z => by omega, fun z => by omega, fun z => by omega, fun z => by omega, fun z => by omega, fun z => by omega⟩))
    · refine ⟨nI tr, fun Q hQ => ?_, fun h Q eh hQ => ?_⟩
      · exact bc_f' i0 (bc_t s1 ⟨fun z => by omega, fun _ => by rw [p6]; exact hQ, fun z => by omega, fun z => by omega, fun z => by omega, fun z => by omega, fun z => by omega, fun z => by omega, fun z => by omega⟩)
      · exact bc_f' i0 (m_isOpen1 hc4 (by rw [eh]; exact s2) (bz_t1 ⟨fun z => by omega, fun _ => ⟨hic, by rw [hcl, eh, p7]; exact hQ⟩, fun z => by omega, fun z => by omega, fun z => by omega, fun z => by omega, fun z => by omega, fun z => by omega, fun z => by omega⟩))
    · refine ⟨nI st, fun Q hQ => ?_, fun h Q eh hQ => ?_⟩
      · exact bc_f' i0 (bc_t s1 ⟨fun z => by omega, fun z => by omega, fun _ => by rw [p8.2.2.1]; exact hQ, fun z => by omega, fun z => by omega, fun z => by omega, fun z => by omega, fun z => by omega, fun z => by omega⟩)
      · exact bc_f' i0 (m_isOpen1 hc4 (by rw [eh]; exact s2) (bz_t1 ⟨fun z => by omega, fun z => by omega, fun _ => ⟨hic, by rw [hcl, eh, p9.2.2.1]; exact hQ⟩, fun z => by omega, fun z => by omega, fun z => by omega, fun z => by omega, fun z => by omega, fun z => by omega⟩))
    · refine ⟨nI ((st + sp) % 64), fun Q hQ => ?_, fun h Q eh hQ => ?_⟩
      · exact bc_f' i0 (bc_t s1 ⟨fun z => by omega, fun z => by omega, fun z => by omega, fun _ => by rw [p8.2.2.2.1]; exact hQ, fun z => by omega, fun z => by omega, fun z => by omega, fun z => by omega, fun z => by omega⟩)
      · exact bc_f' i0 (m_isOpen1 hc4 (by rw [eh]; exact s2) (bz_t1 ⟨fun z => by omega, fun z => by omega, fun z => by omega, fun _ => ⟨hic, by rw [hcl, eh, p9.2.2.2.1]; exact hQ⟩, fun z => by omega, fun z => by omega, fun z => by omega, fun z => by omega, fun z => by omega⟩))
    · refine ⟨nI qn, fun Q hQ => ?_, fun h Q eh hQ => ?_⟩
      · exact bc_f' i0 (bc_t s1 ⟨fun z => by omega, fun z => by omega, fun z => by omega, fun z => by omega, fun _ => by rw [p10.2.1]; exact hQ, fun z => by omega, fun z => by omega, fun z => by omega, fun z => by omega⟩)
      · exact bc_f' i0 (m_isOpen1 hc4 (by rw [eh]; exact s2) (bz_t1 ⟨fun z => by omega, fun z => by omega, fun z => by omega, fun z => by omega, fun _ => ⟨hic, by rw [hcl, eh, p11.2.1]; exact hQ⟩, fun z => by omega, fun z => by omega, fun z => by omega, fun z => by omega⟩))
    · refine ⟨nI (ud sp e), fun Q hQ => ?_, fun h Q eh hQ => ?_⟩
      · exact bc_f' i0 (bc_t s1 ⟨fun z => by omega, fun z => by omega, fun z => by omega, fun z => by omega, fun z => by omega, fun _ => k_undone p8 p14 hQ, fun z => by omega, fun z => by omega, fun z => by omega⟩)
      · exact bc_f' i0 (m_isOpen1 hc4 (by rw [eh]; exact s2) (bz_t1 ⟨fun z => by omega, fun z => by omega, fun z => by omega, fun z => by omega, fun z => by omega, fun _ => m_notDone hc4 (by rw [eh]; exact p9) p14 hQ, fun z => by omega, fun z => by omega, fun z => by omega⟩))
    · refine ⟨if nI d.1 = 0 then 0 else 1, fun Q hQ => ?_, fun h Q eh hQ => ?_⟩
      · exact bc_f' i0 (bc_t s1 ⟨fun z => by omega, fun z => by omega, fun z => by omega, fun z => by omega, fun z => by omega, fun z => by omega, fun _ => (p_flag ..).mpr (by rw [p12.1]; exact hQ), fun z => by omega, fun z => by omega⟩)
      · exact bc_f' i0 (m_isOpen1 hc4 (by rw [eh]; exact s2) (bz_t1 ⟨fun z => by omega, fun z => by omega, fun z => by omega, fun z => by omega, fun z => by omega, fun z => by omega, fun _ => ⟨hic, by rw [hcl, eh, p13.1]; exact bq_i hQ⟩, fun z => by omega, fun z => by omega⟩))
    · refine ⟨if nI d.2.1 = 0 then 0 else 1, fun Q hQ => ?_, fun h Q eh hQ => ?_⟩
      · exact bc_f' i0 (bc_t s1 ⟨fun z => by omega, fun z => by omega, fun z => by omega, fun z => by omega, fun z => by omega, fun z => by omega, fun z => by omega, fun _ => (p_flag ..).mpr (by rw [p12.2.1]; exact hQ), fun z => by omega⟩)
      · exact bc_f' i0 (m_isOpen1 hc4 (by rw [eh]; exact s2) (bz_t1 ⟨fun z => by omega, fun z => by omega, fun z => by omega, fun z => by omega, fun z => by omega, fun z => by omega, fun z => by omega, fun _ => ⟨hic, by rw [hcl, eh, p13.2.1]; exact bq_i hQ⟩, fun z => by omega⟩))
    · refine ⟨d.2.2.2.1, fun Q hQ => ?_, fun h Q eh hQ => ?_⟩
      · exact bc_f' i0 (bc_t s1 ⟨fun z => by omega, fun z => by omega, fun z => by omega, fun z => by omega, fun z => by omega, fun z => by omega, fun z => by omega, fun z => by omega, fun _ => by rw [p12.2.2.2.1]; exact hQ⟩)
      · exact bc_f' i0 (m_isOpen1 hc4 (by rw [eh]; exact s2) (bz_t1 ⟨fun z => by omega, fun z => by omega, fun z => by omega, fun z => by omega, fun z => by omega, fun z => by omega, fun z => by omega, fun z => by omega, fun _ => ⟨hic, by rw [hcl, eh, p13.2.2.2.1]; exact hQ⟩⟩))
  · exact ⟨-1, fun Q hQ => bc_f' i0 (bc_f (by rw [hst]; exact s2) hQ), fun h Q eh hQ => bc_f' i0 (m_isOpen0 hc4 (by rw [eh]; exact s2) (bz_f1 hQ))⟩
theorem o_near (i j : Int32) : OpI (P_X8_near i j) (P_X9_near i j) InvW := by
  intro hc hm hI
  rcases cls_cases hI i with ⟨k1, k2⟩ | ⟨c, hc4, rfl, a1, k1, k2⟩
  · refine k1 _ (bz_f1 ?_)
    exact k2 hm _ rfl (bz_f1 ⟨rfl, hI⟩)
  · refine k1 _ (bz_t1 ?_)
    rcases wi_c 0 9 (A := 0) (B := 9) rfl rfl (by omega) (by omega) j with hw | ⟨n, -, -, hw⟩
    · refine wi_f hw (bz_f1 ?_)
      exact k2 hm _ rfl (bz_t1 (wi_fM hw (bz_f2 ⟨rfl, hI⟩)))
    · refine wi_t hw (bz_t1 ⟨n_in hc4 (by omega), ?_⟩)
      rw [n_cl (by omega)]
      obtain ⟨v, v1, v2⟩ := nearV hI hc4 j
      refine v1 _ ?_
      exact k2 hm _ rfl (bz_t1 (wi_tM hw (bz_t2 (v2 hm _ rfl ⟨rfl, hI⟩))))
theorem givenV {hc hm : HP} {c w tr st sp qn : Nat} {e : Nat → NU} {q : Nat → Nat × Nat} {d : ND} (hc4 : c < 4) (hn : NOpn hc.1 hm.1 (34 + 11 * c) c w tr st sp e qn q d) {p m : Nat} (hp : p < sp) (hm4 : m ≤ 4) : VV (P_X3_tellGiven (34 + 11 * c) (nI p) (nI m)) (P_X9_givenNow (nI c) (nI p) (nI m)) hc hm := by
  obtain ⟨p1, p2, p3, p4, p5, p6, p7, p8, p9, p10, p11, p12, p13, p14, p15, p16, p17⟩ := hn
  have hic : vp_in (nI c) 4 := n_in hc4 (by omega)
  have hcl : (nI c).toNatClampNeg = c := n_cl (by omega)
  have b1 : st < 64 := p8.1
  have b2 : sp ≤ 12 := p8.2.1
  have x1 : hc.1 (34 + 11 * c) 4 = nI st := p8.2.2.1
  have x2 : hm.1 86 c = nI st := p9.2.2.1
  have hs : vp_in (nI ((st + p) % 16)) 16 := n_in (by omega) (by omega)
  have hsc : (nI ((st + p) % 16)).toNatClampNeg = (st + p) % 16 := n_cl (by omega)
  have hv : vp_in (nI (64 * c + (st + p) % 64)) 256 := n_in (by omega) (by omega)
  have hvc : (nI (64 * c + (st + p) % 64)).toNatClampNeg = 64 * c + (st + p) % 64 := n_cl (by omega)
  obtain ⟨y1, y2, y3, y4⟩ := p8.2.2.2.2 p hp
  obtain ⟨z1, z2, z3, z4⟩ := p9.2.2.2.2 p hp
  simp only at y1 y2 y3 y4 z1 z2 z3 z4
  have C : ∀ (i : Int32) (Q : Int32 → HP → Prop), ((i.toInt = 0 → Q (nI ((st + p) % 64)) hc) ∧ (i.toInt = 1 → Q (nI (e p).1) hc) ∧ (i.toInt = 2 → Q (nI (e p).2.1) hc) ∧ (i.toInt = 3 → Q (nI (e p).2.2.1) hc) ∧ ((i.toInt < 0 ∨ 3 < i.toInt) → Q (if nI (e p).2.2.2 = 0 then 0 else 1) hc)) → P_X3_tellGiven (34 + 11 * c) (nI p) i hc Q := by
    intro i Q ⟨q0, q1, q2, q3, q4⟩
    unfold P_X3_tellGiven
    rw [x1, nI_add, p_slot (by omega)]
    refine ⟨fun z => ?_, fun z => ⟨hs, ?_⟩, fun z => ⟨hs, ?_⟩, fun z => ⟨hs, ?_⟩, fun z => ⟨hs, ?_⟩⟩
    · rw [x1, nI_add, p_round (by omega)]; exact q0 z
    · rw [hsc, y1]; exact q1 z
    · rw [hsc, y2]; exact q2 z
    · rw [hsc, y3]; exact q3 z
    · rw [hsc, y4, p_flag]; exact q4 z
  have M : ∀ (i : Int32) (h : HP) (Q : Int32 → HP → Prop), h.1 = hm.1 → ((i = 0 → Q (nI ((st + p) % 64)) h) ∧ (i = 1 → Q (nI (e p).1) h) ∧ (i = 2 → Q (nI (e p).2.1) h) ∧ (i = 3 → Q (nI (e p).2.2.1) h) ∧ ((¬ i = 0 ∧ ¬ i = 1 ∧ ¬ i = 2 ∧ ¬ i = 3) → Q (if nI (e p).2.2.2 = 0 then 0 else 1) h)) → P_X9_givenNow (nI c) (nI p) i h Q := by
    intro i h Q eh ⟨q0, q1, q2, q3, q4⟩
    unfold P_X9_givenNow
    rw [hcl, eh, x2, n_at hc4 (by omega), hvc, z1, z2, z3, z4, nI_add, n_rem64 (by omega)]
    exact ⟨hic, fun w0 => ⟨fun w1 => ⟨fun w2 => ⟨fun w3 => ⟨hv, bq_i (q4 ⟨w0, w1, w2, w3⟩)⟩, fun w3 => ⟨hv, q3 w3⟩⟩, fun w2 => ⟨hv, q2 w2⟩⟩, fun w1 => ⟨hv, q1 w1⟩⟩, q0⟩
  have hm' : m = 0 ∨ m = 1 ∨ m = 2 ∨ m = 3 ∨ m = 4 := by omega
  rcases hm' with rfl | rfl | rfl | rfl | rfl
  · exact ⟨nI ((st + p) % 64), fun Q hQ => C _ Q ⟨fun _ => hQ, fun z => absurd z (by decide), fun z => absurd z (by decide), fun z => absurd z (by decide), fun z => absurd z (by decide)⟩, fun h Q eh hQ => M _ h Q eh ⟨fun _ => hQ, fun z => absurd z (by decide), fun z => absurd z (by decide), fun z => absurd z (by decide), fun z => absurd z (by decide)⟩⟩
  · exact ⟨nI (e p).1, fun Q hQ => C _ Q ⟨fun z => absurd z (by decide), fun _ => hQ, fun z => absurd z (by decide), fun z => absurd z (by decide), fun z => absurd z (by decide)⟩, fun h Q eh hQ => M _ h Q eh ⟨fun z => absurd z (by decide), fun _ => hQ, fun z => absurd z (by decide), fun z => absurd z (by decide), fun z => absurd z (by decide)⟩⟩
  · exact ⟨nI (e p).2.1, fun Q hQ => C _ Q ⟨fun z => absurd z (by decide), fun z => absurd z (by decide), fun _ => hQ, fun z => absurd z (by decide), fun z => absurd z (by decide)⟩, fun h Q eh hQ => M _ h Q eh ⟨fun z => absurd z (by decide), fun z => absurd z (by decide), fun _ => hQ, fun z => absurd z (by decide), fun z => absurd z (by decide)⟩⟩
  · exact ⟨nI (e p).2.2.1, fun Q hQ => C _ Q ⟨fun z => absurd z (by decide), fun z => absurd z (by decide), fun z => absurd z (by decide), fun _ => hQ, fun z => absurd z (by decide)⟩, fun h Q eh hQ => M _ h Q eh ⟨fun z => absurd z (by decide), fun z => absurd z (by decide), fun z => absurd z (by decide), fun _ => hQ, fun z => absurd z (by decide)⟩⟩
  · exact ⟨if nI (e p).2.2.2 = 0 then 0 else 1, fun Q hQ => C _ Q ⟨fun z => absurd z (by decide), fun z => absurd z (by decide), fun z => absurd z (by decide), fun z => absurd z (by decide), fun _ => hQ⟩, fun h Q eh hQ => M _ h Q eh ⟨fun z => absurd z (by decide), fun z => absurd z (by decide), fun z => absurd z (by decide), fun z => absurd z (by decide), fun _ => hQ⟩⟩
theorem k_hasPl {N st sp : Nat} {e : Nat → NU} {h : HP} {Q : Int32 → HP → Prop} (s1 : h.1 N 1 = 2) (hb : CB h.1 N (st, sp, e)) {i : Int32} : ((i < 0 ∨ nI sp - 1 < i) → Q 0 h → P_X3_hasPlace N i h Q) ∧ ((¬ (i < 0 ∨ nI sp - 1 < i)) → Q 1 h → P_X3_hasPlace N i h Q) := ⟨fun hw hQ => bc_t' s1 (k_spread hb (wi_f hw (bz_f2 hQ))), fun hw hQ => bc_t' s1 (k_spread hb (wi_t hw (bz_t2 hQ)))⟩
theorem o_given (i j l : Int32) : OpI (P_X8_given i j l) (P_X9_given i j l) InvW := by
  intro hc hm hI
  rcases cls_cases hI i with ⟨k1, k2⟩ | ⟨c, hc4, rfl, a1, k1, k2⟩
  · refine k1 _ (bz_f2 ?_)
    exact k2 hm _ rfl (bz_f2 ⟨rfl, hI⟩)
  · have hic : vp_in (nI c) 4 := n_in hc4 (by omega)
    have hcl : (nI c).toNatClampNeg = c := n_cl (by omega)
    refine k1 _ (bz_t2 ⟨hic, ?_⟩)
    rw [hcl]
    by_cases s2 : hm.1 81 c = 2
    · obtain ⟨w, tr, st, sp, e, qn, q, d, hn⟩ := st_opn hI hc4 s2
      obtain ⟨p1, p2, p3, p4, p5, p6, p7, p8, p9, p10, p11, p12, p13, p14, p15, p16, p17⟩ := id hn
      have b2 : sp ≤ 12 := p8.2.1
      have s1 : hc.1 (34 + 11 * c) 1 = 2 := (st_eq hI hc4).trans s2
      rcases win (k := sp) (by omega) j with hw | ⟨p, hp, rfl⟩
      · refine (k_hasPl s1 p8).1 hw (bz_f1 ?_)
        refine k2 hm _ rfl (bz_t2 (m_isOpen1 hc4 s2 (bz_t2 ⟨hic, hic, ?_⟩)))
        rw [hcl]
        exact m_spread p9 (wi_fM hw (bz_f1 ⟨rfl, hI⟩))
      · have hw := win_in (k := sp) (by omega) hp
        refine (k_hasPl s1 p8).2 hw (bz_t1 ?_)
        rcases wi_c 0 4 (A := 0) (B := 4) rfl rfl (by omega) (by omega) l with hl | ⟨m, ⟨-, m4⟩, rfl, hl⟩
        · refine wi_f hl (bz_f1 ?_)
          refine k2 hm _ rfl (bz_t2 (m_isOpen1 hc4 s2 (bz_t2 ⟨hic, hic, ?_⟩)))
          rw [hcl]
          exact m_spread p9 (wi_tM hw (bz_t1 (wi_fM hl (bz_f2 ⟨rfl, hI⟩))))
        · refine wi_t hl (bz_t1 ⟨hic, ?_⟩)
          obtain ⟨v, v1, v2⟩ := givenV hc4 hn hp m4
          refine v1 _ ?_
          refine k2 hm _ rfl (bz_t2 (m_isOpen1 hc4 s2 (bz_t2 ⟨hic, hic, ?_⟩)))
          rw [hcl]
          exact m_spread p9 (wi_tM hw (bz_t1 (wi_tM hl (bz_t2 (v2 hm _ rfl ⟨rfl, hI⟩)))))
    · refine bc_f' (by rw [st_eq hI hc4]; exact s2) (bz_f1 ?_)
      exact k2 hm _ rfl (bz_t2 (m_isOpen0 hc4 s2 (bz_f2 ⟨rfl, hI⟩)))
