/-! What the class and the reference have in common between two calls. -/
def RPg (hc hm : HP) : Prop := ∃ n, n ≤ 9 ∧ hc.1 1 1 = nI n ∧ hm.1 78 6 = nI n ∧ ∀ i, i < n → hc.1 2 i = hm.1 79 i
def AirOk (g : Nat → Nat → Int32) : Prop := ∃ on off rt bd, g 78 0 = nI on ∧ g 78 1 = nI off ∧ g 78 2 = nI rt ∧ g 78 3 = nI bd ∧ (1 ≤ on ∧ on ≤ 9) ∧ off ≤ 9 ∧ rt ≤ 9 ∧ 1 ≤ bd ∧ bd ≤ 8
def RAir (hc hm : HP) : Prop := (∀ j, j < 5 → hc.1 3 (j + 1) = hm.1 78 j) ∧ ((hc.1 3 0 = 0 ∧ hm.1 78 0 = 0) ∨ (hc.1 3 0 = 1 ∧ AirOk hm.1))
def RTal (hc hm : HP) : Prop := (∀ j, j < 7 → hc.1 4 j = hm.1 80 j) ∧ hc.1 4 7 = hm.1 78 5
def NOpn (f g : Nat → Nat → Int32) (N c : Nat) (w tr st sp : Nat) (e : Nat → NU) (qn : Nat) (q : Nat → Nat × Nat) (d : ND) : Prop := (1 ≤ w ∧ w ≤ 12) ∧ (1 ≤ tr ∧ tr ≤ 4) ∧ sp ≤ w ∧ f N 2 = nI w ∧ g 83 c = nI w ∧ f N 3 = nI tr ∧ g 84 c = nI tr ∧ CB f N (st, sp, e) ∧ MB g c (st, sp, e) ∧ CQ f N qn q ∧ MQu g c qn q ∧ CD f N d ∧ MD g c d ∧ (∀ k, k < sp → EOk tr (e k)) ∧ QOk qn q ∧ (d.1 ≤ 1 ∧ d.2.1 ≤ 1 ∧ d.2.2.1 ≤ 1) ∧ (d.1 = 0 → ∀ k, k < sp → (e k).2.2.2 = 0 → (e k).2.2.1 < tr)
def RN (hc hm : HP) (c : Nat) : Prop := (hc.1 (34 + 11 * c) 1 = 0 ∧ hc.1 (34 + 11 * c) 8 = 0 ∧ hm.1 81 c = 0) ∨ (hc.1 (34 + 11 * c) 1 = 1 ∧ hm.1 81 c = 1 ∧ ∃ tr, (1 ≤ tr ∧ tr ≤ 4) ∧ hc.1 (34 + 11 * c) 3 = nI tr ∧ hm.1 84 c = nI tr ∧ ∀ j, 4 ≤ j → j ≤ 10 → hc.1 (34 + 11 * c) j = 0) ∨ (hc.1 (34 + 11 * c) 1 = 2 ∧ hm.1 81 c = 2 ∧ ∃ w tr st sp e qn q d, NOpn hc.1 hm.1 (34 + 11 * c) c w tr st sp e qn q d)
def RF (hc hm : HP) (c : Nat) : Prop := (∃ os, hc.1 (41 + 11 * c) 2 = 0 ∧ hm.1 99 c = 0 ∧ CO hc.1 (41 + 11 * c) os ∧ MO hm.1 c os) ∨ ∃ y, YOk y ∧ CFar hc.1 (41 + 11 * c) y ∧ MFar hm.1 c y
def XS (g : Nat → Nat → Int32) (x : LT) : Prop := (x.1.1 ≤ 1 → g 81 x.1.2.1 = 1) ∧ (2 ≤ x.1.1 → x.1.1 ≤ 4 → g 81 x.1.2.1 = 2 ∧ g 88 x.1.2.1 = 1) ∧ (x.1.1 = 5 → g 81 x.1.2.1 = 0)
def LsOk (g : Nat → Nat → Int32) (k : Nat) (X : Nat → LT) : Prop := (∀ i, i < k → LtOk (X i)) ∧ (∀ i j, i < j → j < k → (X i).1.2.1 ≠ (X j).1.2.1) ∧ ∀ i, i < k → XS g (X i)
def RLt (hc hm : HP) : Prop := ∃ k X, CLs hc k X ∧ MLs hm.1 k X ∧ LsOk hm.1 k X ∧ (hc.1 3 0 = 0 → k = 0)
def InvW (hc hm : HP) : Prop := RPg hc hm ∧ RAir hc hm ∧ RTal hc hm ∧ (∀ c, c < 4 → RN hc hm c) ∧ (∀ c, c < 4 → RF hc hm c) ∧ RLt hc hm
theorem inv_0 : InvW hz0 hz0 := by
  refine ⟨⟨0, by omega, rfl, rfl, fun i hi => absurd hi (by omega)⟩, ⟨fun _ _ => rfl, Or.inl ⟨rfl, rfl⟩⟩, ⟨fun _ _ => rfl, rfl⟩, fun c _ => Or.inl ⟨rfl, rfl, rfl⟩, fun c _ => Or.inl ⟨(0, (fun _ => 0), 0), rfl, rfl, ⟨Nat.zero_le _, rfl, fun i hi => absurd hi (Nat.not_lt_zero i), rfl⟩, ⟨Nat.zero_le _, rfl, fun i hi => absurd hi (Nat.not_lt_zero i), rfl⟩⟩, ?_⟩
  refine ⟨0, (fun _ => ((0, 0, 0), (0, 0, 0, 0, 0), fun _ => (0, 0, 0))), ⟨by omega, rfl, ⟨fun i hi => ⟨i, hi, rfl⟩, fun i j hij hj => ?_⟩, fun i hi => absurd hi (by omega)⟩, ⟨by omega, rfl, fun i hi => absurd hi (by omega)⟩, ⟨fun i hi => absurd hi (by omega), fun i j _ hi => absurd hi (by omega), fun i hi => absurd hi (by omega)⟩, fun _ => rfl⟩
  show 7 + 5 * i ≠ 7 + 5 * j
  omega
def iN (c a b : Nat) : Prop := (81 ≤ a ∧ a ≤ 92 ∧ b = c) ∨ ((a = 93 ∨ a = 94) ∧ 24 * c ≤ b ∧ b < 24 * c + 24) ∨ (95 ≤ a ∧ a ≤ 98 ∧ 64 * c ≤ b ∧ b < 64 * c + 64)
def iF (c a b : Nat) : Prop := (99 ≤ a ∧ a ≤ 107 ∧ b = c) ∨ (a = 108 ∧ 64 * c ≤ b ∧ b < 64 * c + 64) ∨ (a = 109 ∧ b = c) ∨ (a = 110 ∧ 10 * c ≤ b ∧ b < 10 * c + 10)
theorem RPg.fr {hc hm hc' hm' : HP} (h : RPg hc hm) (h1 : hc'.1 1 1 = hc.1 1 1) (h2 : ∀ b, hc'.1 2 b = hc.1 2 b) (h3 : hm'.1 78 6 = hm.1 78 6) (h4 : ∀ b, hm'.1 79 b = hm.1 79 b) : RPg hc' hm' := by
  obtain ⟨n, a, b, c, d⟩ := h
  exact ⟨n, a, h1.trans b, h3.trans c, fun i hi => by rw [h2, h4]; exact d i hi⟩
theorem RAir.fr {hc hm hc' hm' : HP} (h : RAir hc hm) (h1 : ∀ b, hc'.1 3 b = hc.1 3 b) (h2 : ∀ b, b < 5 → hm'.1 78 b = hm.1 78 b) : RAir hc' hm' := by
  refine ⟨fun j hj => by rw [h1, h2 j hj]; exact h.1 j hj, ?_⟩
  rw [h1, h2 0 (by omega)]
  refine h.2.imp id fun z => ⟨z.1, ?_⟩
  obtain ⟨a, b, c, d, e1, e2, e3, e4, e5⟩ := z.2
  exact ⟨a, b, c, d, (h2 0 (by omega)).trans e1, (h2 1 (by omega)).trans e2, (h2 2 (by omega)).trans e3, (h2 3 (by omega)).trans e4, e5⟩
theorem NOpn.fr {f g f' g' : Nat → Nat → Int32} {N c w tr st sp qn : Nat} {e : Nat → NU} {q : Nat → Nat × Nat} {d : ND} (hN : 33 < N) (h : NOpn f g N c w tr st sp e qn q d) (h1 : ∀ a b, N ≤ a → a ≤ N + 6 → f' a b = f a b) (h2 : ∀ a b, iN c a b → g' a b = g a b) (h3 : f' 4 6 = g' 80 6) : NOpn f' g' N c w tr st sp e qn q (d.1, d.2.1, d.2.2.1, d.2.2.2.1, f' 4 6) := by
  obtain ⟨p1, p2, p3, p4, p5, p6, p7, p8, p9, p10, p11, p12, p13, p14, p15, p16, p17⟩ := h
  have f1 : ∀ b, f' N b = f N b := fun b => h1 N b (Nat.le_refl _) (by omega)
  have g1 : ∀ a, 81 ≤ a → a ≤ 92 → g' a c = g a c := fun a z1 z2 => h2 a c (Or.inl ⟨z1, z2, rfl⟩)
  have hst : st < 64 := p8.1
  refine ⟨p1, p2, p3, (f1 _).trans p4, (g1 _ (by omega) (by omega)).trans p5, (f1 _).trans p6, (g1 _ (by omega) (by omega)).trans p7, p8.fr (f1 _) (f1 _) fun a s z1 z2 => h1 _ _ (by omega) (by omega), ?_, ?_, ?_, ?_, ?_, p14, p15, p16, p17⟩
  · refine ⟨p9.1, p9.2.1, (g1 _ (by omega) (by omega)).trans p9.2.2.1, (g1 _ (by omega) (by omega)).trans p9.2.2.2.1, fun k hk => ?_⟩
    exact (p9.2.2.2.2 k hk).fr fun a z1 z2 => h2 _ _ (Or.inr (Or.inr ⟨z1, z2, by omega, by show 64 * c + (st + k) % 64 < _; omega⟩))
  · exact ⟨p10.1, (f1 _).trans p10.2.1, fun i hi => ⟨(h1 _ _ (by omega) (by omega)).trans (p10.2.2 i hi).1, (h1 _ _ (by omega) (by omega)).trans (p10.2.2 i hi).2⟩⟩
  · have := p11.1
    exact ⟨p11.1, (g1 _ (by omega) (by omega)).trans p11.2.1, fun i hi => ⟨(h2 _ _ (Or.inr (Or.inl ⟨by omega, by omega, by omega⟩))).trans (p11.2.2 i hi).1, (h2 _ _ (Or.inr (Or.inl ⟨by omega, by omega, by omega⟩))).trans (p11.2.2 i hi).2⟩⟩
  · exact ⟨(f1 _).trans p12.1, (f1 _).trans p12.2.1, (f1 _).trans p12.2.2.1, (f1 _).trans p12.2.2.2.1, rfl⟩
  · exact ⟨(g1 _ (by omega) (by omega)).trans p13.1, (g1 _ (by omega) (by omega)).trans p13.2.1, (g1 _ (by omega) (by omega)).trans p13.2.2.1, (g1 _ (by omega) (by omega)).trans p13.2.2.2.1, h3.symm⟩
theorem RN.fr {hc hm hc' hm' : HP} {c : Nat} (h : RN hc hm c) (h1 : ∀ a b, 34 + 11 * c ≤ a → a ≤ 40 + 11 * c → hc'.1 a b = hc.1 a b) (h2 : ∀ a b, iN c a b → hm'.1 a b = hm.1 a b) (h3 : hc'.1 4 6 = hm'.1 80 6) : RN hc' hm' c := by
  have f1 : ∀ b, hc'.1 (34 + 11 * c) b = hc.1 (34 + 11 * c) b := fun b => h1 _ b (Nat.le_refl _) (by omega)
  have g1 : ∀ a, 81 ≤ a → a ≤ 92 → hm'.1 a c = hm.1 a c := fun a z1 z2 => h2 a c (Or.inl ⟨z1, z2, rfl⟩)
  unfold RN
  rw [f1, f1, g1 81 (by omega) (by omega)]
  rcases h with h | ⟨h4, h5, tr, h6, h7, h8, h9⟩ | ⟨h4, h5, w, tr, st, sp, e, qn, q, d, h6⟩
  · exact Or.inl h
  · exact Or.inr (Or.inl ⟨h4, h5, tr, h6, (f1 _).trans h7, (g1 _ (by omega) (by omega)).trans h8, fun j z1 z2 => (f1 _).trans (h9 j z1 z2)⟩)
  · exact Or.inr (Or.inr ⟨h4, h5, w, tr, st, sp, e, qn, q, _, h6.fr (by omega) (fun a b z1 z2 => h1 a b z1 (by omega)) h2 h3⟩)
theorem RF.fr {hc hm hc' hm' : HP} {c : Nat} (h : RF hc hm c) (h1 : ∀ a b, 41 + 11 * c ≤ a → a ≤ 44 + 11 * c → hc'.1 a b = hc.1 a b) (h2 : ∀ a b, iF c a b → hm'.1 a b = hm.1 a b) (h3 : hc'.1 4 4 = hm'.1 80 4) (h4 : hc'.1 4 5 = hm'.1 80 5) : RF hc' hm' c := by
  have f1 : ∀ b, hc'.1 (41 + 11 * c) b = hc.1 (41 + 11 * c) b := fun b => h1 _ b (Nat.le_refl _) (by omega)
  have g1 : ∀ a, 99 ≤ a → a ≤ 107 → hm'.1 a c = hm.1 a c := fun a z1 z2 => h2 a c (Or.inl ⟨z1, z2, rfl⟩)
  have co : ∀ os : OS, CO hc.1 (41 + 11 * c) os → CO hc'.1 (41 + 11 * c) (os.1, os.2.1, hc'.1 4 4) := fun os z => ⟨z.1, (h1 _ _ (by omega) (by omega)).trans z.2.1, fun i hi => (h1 _ _ (by omega) (by omega)).trans (z.2.2.1 i hi), rfl⟩
  have mo : ∀ os : OS, MO hm.1 c os → MO hm'.1 c (os.1, os.2.1, hc'.1 4 4) := fun os z => by
    have := z.1
    exact ⟨z.1, (h2 _ _ (Or.inr (Or.inr (Or.inl ⟨rfl, rfl⟩)))).trans z.2.1, fun i hi => (h2 _ _ (Or.inr (Or.inr (Or.inr ⟨rfl, by omega, by have : i < os.1 := hi; omega⟩)))).trans (z.2.2.1 i hi), h3.symm⟩
  rcases h with ⟨os, a1, a2, a3, a4⟩ | ⟨y, a1, a2, a3⟩
  · exact Or.inl ⟨_, (f1 _).trans a1, (g1 _ (by omega) (by omega)).trans a2, co os a3, mo os a4⟩
  · obtain ⟨b1, b2, b3, b4, b5, b6, b7, b8, b9, b10, b11, b12, b13⟩ := a2
    obtain ⟨c1, c2, c3, c4, c5, c6, c7, c8, c9, c10, c11, c12, c13⟩ := a3
    refine Or.inr ⟨(y.1, y.2.1, hc'.1 4 5, y.2.2.2.1, y.2.2.2.2.1, y.2.2.2.2.2.1, (y.2.2.2.2.2.2.1, y.2.2.2.2.2.2.2.1, hc'.1 4 4)), a1, ?_, ?_⟩
    · exact ⟨(f1 _).trans b1, (f1 _).trans b2, (f1 _).trans b3, (f1 _).trans b4, (f1 _).trans b5, (f1 _).trans b6, (f1 _).trans b7, rfl, b9, (f1 _).trans b10, (f1 _).trans b11, fun k hk => (h1 _ _ (by omega) (by omega)).trans (b12 k hk), co _ b13⟩
    · exact ⟨(g1 _ (by omega) (by omega)).trans c1, (g1 _ (by omega) (by omega)).trans c2, (g1 _ (by omega) (by omega)).trans c3, (g1 _ (by omega) (by omega)).trans c4, (g1 _ (by omega) (by omega)).trans c5, (g1 _ (by omega) (by omega)).trans c6, (g1 _ (by omega) (by omega)).trans c7, h4.symm, c9, (g1 _ (by omega) (by omega)).trans c10, (g1 _ (by omega) (by omega)).trans c11, fun k hk => (h2 _ _ (Or.inr (Or.inl ⟨rfl, by omega, by omega⟩))).trans (c12 k hk), mo _ c13⟩
theorem LsOk.fr {g g' : Nat → Nat → Int32} {k : Nat} {X : Nat → LT} (h : LsOk g k X) (h1 : ∀ c, c < 4 → g' 81 c = g 81 c) (h2 : ∀ c, c < 4 → g' 88 c = g 88 c) : LsOk g' k X := ⟨h.1, h.2.1, fun i hi => by
  have q := (h.1 i hi).2.1
  unfold XS
  rw [h1 _ q, h2 _ q]
  exact h.2.2 i hi⟩
theorem RLt.fr {hc hm hc' hm' : HP} (h : RLt hc hm) (h0 : hc'.2.1 = hc.2.1) (h1 : ∀ a b, 7 ≤ a → a ≤ 31 → hc'.1 a b = hc.1 a b) (h2 : hc'.1 5 2 = hc.1 5 2) (h3 : hc'.1 3 0 = hc.1 3 0) (h4 : hm'.1 78 39 = hm.1 78 39) (h5 : ∀ b, hm'.1 111 b = hm.1 111 b) (h6 : ∀ b, hm'.1 112 b = hm.1 112 b) (h7 : ∀ c, c < 4 → hm'.1 81 c = hm.1 81 c) (h8 : ∀ c, c < 4 → hm'.1 88 c = hm.1 88 c) : RLt hc' hm' := by
  obtain ⟨k, X, a1, a2, a3, a4⟩ := h
  exact ⟨k, X, a1.fr h0 h1 h2, a2.fr a3.1 h4 h5 h6, a3.fr h7 h8, fun z => a4 (h3 ▸ z)⟩
