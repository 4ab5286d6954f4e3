/-! the river as far as it is read -/
def drOK (R : Nat → Nat → Nat) (l : Nat) : Prop :=
  R 0 0 ≤ 6 ∧ R 0 1 ≤ 7 ∧ R 0 2 ≤ 6 ∧ R 0 3 ≤ 5 ∧ R 0 4 ≤ 900 ∧ (R 0 4 = 0 → R 0 0 = 0) ∧ (1 ≤ R 0 4 → 2 ≤ R 0 5 ∧ R 0 5 ≤ 40) ∧
  (∀ r, r < R 0 0 → R 1 r ≤ 3 ∧ 3 ≤ R 2 r ∧ R 2 r ≤ 40 ∧ 1 ≤ R 3 r ∧ R 3 r ≤ 99 ∧ R 10 r ≤ 901) ∧
  (∀ j, j < R 0 1 → R 4 j < R 0 0 ∧ 1 ≤ R 5 j ∧ R 5 j ≤ 9 ∧ 1 ≤ R 6 j ∧ R 6 j ≤ 99) ∧
  (∀ h, h < R 0 2 → 1 ≤ R 7 h ∧ R 7 h ≤ 99) ∧ (∀ b, b < R 0 3 → 1 ≤ R 8 b ∧ R 8 b ≤ 30 ∧ R 9 b ≤ 60) ∧ l < 2 ^ R 0 1
theorem drOK_rv {R : Nat → Nat → Nat} {l : Nat} (h : drOK R l) (h0 : 1 ≤ R 0 0) : rvOK R := by
  obtain ⟨a1, a2, a3, a4, a5, a6, a7, a8, a9, a10, a11, a12⟩ := h
  have hf : 1 ≤ R 0 4 := by
    by_cases z : R 0 4 = 0
    · have := a6 z; omega
    · omega
  exact ⟨⟨h0, a1, a2, a3, a4, hf, a5, (a7 hf).1, (a7 hf).2⟩, a8, a9, a10, a11⟩
def drF (R : Nat → Nat → Nat) (l : Nat) (fl ta re ro ha bo mu lo : Int32) (ki wi ba md at_ pu be st bw bd : (Nat → Int32)) : Prop :=
  fl = nI (R 0 4) ∧ ta = nI (R 0 5) ∧ re = nI (R 0 0) ∧ ro = nI (R 0 1) ∧ ha = nI (R 0 2) ∧ bo = nI (R 0 3) ∧ mu = nI (R 0 6) ∧ lo = nI l ∧ rw_ (R 0 0) ki (R 1) ∧ rw_ (R 0 0) wi (R 2) ∧ rw_ (R 0 0) ba (R 3) ∧ (∀ r, r < R 0 0 → md r = mI (R 10 r)) ∧ rw_ (R 0 1) at_ (R 4) ∧ rw_ (R 0 1) pu (R 5) ∧ rw_ (R 0 1) be (R 6) ∧ rw_ (R 0 2) st (R 7) ∧ rw_ (R 0 3) bw (R 8) ∧ rw_ (R 0 3) bd (R 9)
def ru (R : Nat → Nat → Nat) (a b x : Nat) : Nat → Nat → Nat := fun i j => if i = a ∧ j = b then x else R i j
theorem ru_s (R : Nat → Nat → Nat) (a b x : Nat) : ru R a b x a b = x := if_pos ⟨rfl, rfl⟩
theorem ru_a {R : Nat → Nat → Nat} {a b x i : Nat} (h : i ≠ a) (j : Nat) : ru R a b x i j = R i j := if_neg (fun z => h z.1)
theorem ru_b {R : Nat → Nat → Nat} {a b x j : Nat} (h : j ≠ b) (i : Nat) : ru R a b x i j = R i j := if_neg (fun z => h z.2)
theorem rw_new {r k : Nat} {f : (Nat → Int32)} {g g' : Nat → Nat} (h : rw_ r f g) (h1 : g' r = k) (h2 : ∀ i, i < r → g' i = g i) : rw_ (r + 1) (upd f r (nI k)) g' := by
  intro i hi
  by_cases e : i = r
  · subst e; rw [upd_s, h1]
  · rw [upd_n _ _ e, h i (by omega), h2 i (by omega)]
/-- the flow and the tape -/
def uRiv (R : Nat → Nat → Nat) (x y : Nat) : Nat → Nat → Nat := ru (ru R 0 4 x) 0 5 y
theorem uRiv_ok {R : Nat → Nat → Nat} {l x y : Nat} (h : drOK R l) (x1 : 1 ≤ x) (x2 : x ≤ 900) (y1 : 2 ≤ y) (y2 : y ≤ 40) : drOK (uRiv R x y) l := by
  obtain ⟨a1, a2, a3, a4, a5, a6, a7, a8, a9, a10, a11, a12⟩ := h
  exact ⟨a1, a2, a3, a4, x2, fun z => absurd (show x = 0 from z) (by omega), fun _ => ⟨y1, y2⟩, a8, a9, a10, a11, a12⟩
theorem uRiv_F {R : Nat → Nat → Nat} {l x y : Nat} {fl ta re ro ha bo mu lo : Int32} {ki wi ba md at_ pu be st bw bd : (Nat → Int32)} (h : drF R l fl ta re ro ha bo mu lo ki wi ba md at_ pu be st bw bd) : drF (uRiv R x y) l (nI x) (nI y) re ro ha bo mu lo ki wi ba md at_ pu be st bw bd := by
  obtain ⟨a1, a2, a3, a4, a5, a6, a7, a8, a9, a10, a11, a12, a13, a14, a15, a16, a17, a18⟩ := h
  exact ⟨rfl, rfl, a3, a4, a5, a6, a7, a8, a9, a10, a11, a12, a13, a14, a15, a16, a17, a18⟩
/-- a reach more -/
def uRea (R : Nat → Nat → Nat) (k x y : Nat) : Nat → Nat → Nat := ru (ru (ru (ru (ru R 0 0 (R 0 0 + 1)) 1 (R 0 0) k) 2 (R 0 0) x) 3 (R 0 0) y) 10 (R 0 0) 0
theorem uRea_1 (R : Nat → Nat → Nat) (k x y : Nat) : uRea R k x y 1 (R 0 0) = k ∧ uRea R k x y 2 (R 0 0) = x ∧ uRea R k x y 3 (R 0 0) = y ∧ uRea R k x y 10 (R 0 0) = 0 ∧ uRea R k x y 0 0 = R 0 0 + 1 := by
  refine ⟨?_, ?_, ?_, ?_, ?_⟩ <;> simp [uRea, ru]
theorem uRea_2 (R : Nat → Nat → Nat) (k x y : Nat) {i : Nat} (hi : i < R 0 0) (a : Nat) (ha : 1 ≤ a) : uRea R k x y a i = R a i := by
  unfold uRea
  rw [ru_b (by omega), ru_b (by omega), ru_b (by omega), ru_b (by omega), ru_a (by omega)]
theorem uRea_ok {R : Nat → Nat → Nat} {l k x y : Nat} (h : drOK R l) (hr : R 0 0 < 6) (hf : 1 ≤ R 0 4) (hk : k ≤ 3) (x1 : 3 ≤ x) (x2 : x ≤ 40) (y1 : 1 ≤ y) (y2 : y ≤ 99) : drOK (uRea R k x y) l := by
  obtain ⟨a1, a2, a3, a4, a5, a6, a7, a8, a9, a10, a11, a12⟩ := h
  obtain ⟨u1, u2, u3, u4, u5⟩ := uRea_1 R k x y
  refine ⟨by rw [u5]; omega, a2, a3, a4, a5, fun z => absurd (show R 0 4 = 0 from z) (by omega), a7, fun r hr' => ?_, fun j hj => ?_, a10, a11, a12⟩
  · rw [u5] at hr'
    by_cases e : r = R 0 0
    · rw [e, u1, u2, u3, u4]; omega
    · rw [uRea_2 R k x y (by omega) 1 (by omega), uRea_2 R k x y (by omega) 2 (by omega), uRea_2 R k x y (by omega) 3 (by omega), uRea_2 R k x y (by omega) 10 (by omega)]
      exact a8 r (by omega)
  · have := a9 j hj
    rw [u5]
    exact ⟨Nat.lt_succ_of_lt this.1, this.2⟩
theorem uRea_F {R : Nat → Nat → Nat} {l k x y : Nat} {fl ta re ro ha bo mu lo : Int32} {ki wi ba md at_ pu be st bw bd : (Nat → Int32)} (h : drF R l fl ta re ro ha bo mu lo ki wi ba md at_ pu be st bw bd) {md' : (Nat → Int32)} (hm : md' (R 0 0) = -1) (hm2 : ∀ i, i < R 0 0 → md' i = md i) : drF (uRea R k x y) l fl ta (nI (R 0 0 + 1)) ro ha bo mu lo (upd ki (R 0 0) (nI k)) (upd wi (R 0 0) (nI x)) (upd ba (R 0 0) (nI y)) md' at_ pu be st bw bd := by
  obtain ⟨a1, a2, a3, a4, a5, a6, a7, a8, a9, a10, a11, a12, a13, a14, a15, a16, a17, a18⟩ := h
  obtain ⟨u1, u2, u3, u4, u5⟩ := uRea_1 R k x y
  refine ⟨a1, a2, by rw [u5], a4, a5, a6, a7, a8, ?_, ?_, ?_, fun r hr' => ?_, a13, a14, a15, a16, a17, a18⟩
  · rw [u5]; exact rw_new a9 u1 (fun i hi => uRea_2 R k x y hi 1 (by omega))
  · rw [u5]; exact rw_new a10 u2 (fun i hi => uRea_2 R k x y hi 2 (by omega))
  · rw [u5]; exact rw_new a11 u3 (fun i hi => uRea_2 R k x y hi 3 (by omega))
  · rw [u5] at hr'
    by_cases e : r = R 0 0
    · rw [e, u4, hm]; rfl
    · rw [uRea_2 R k x y (by omega) 10 (by omega), hm2 r (by omega)]; exact a12 r (by omega)
/-- a rope more -/
def uRop (R : Nat → Nat → Nat) (k x y : Nat) : Nat → Nat → Nat := ru (ru (ru (ru R 0 1 (R 0 1 + 1)) 4 (R 0 1) k) 5 (R 0 1) x) 6 (R 0 1) y
theorem uRop_1 (R : Nat → Nat → Nat) (k x y : Nat) : uRop R k x y 4 (R 0 1) = k ∧ uRop R k x y 5 (R 0 1) = x ∧ uRop R k x y 6 (R 0 1) = y ∧ uRop R k x y 0 1 = R 0 1 + 1 := by
  refine ⟨?_, ?_, ?_, ?_⟩ <;> simp [uRop, ru]
theorem uRop_2 (R : Nat → Nat → Nat) (k x y : Nat) {i : Nat} (hi : i < R 0 1) (a : Nat) (ha : 1 ≤ a) : uRop R k x y a i = R a i := by
  unfold uRop
  rw [ru_b (by omega), ru_b (by omega), ru_b (by omega), ru_a (by omega)]
theorem uRop_ok {R : Nat → Nat → Nat} {l k x y : Nat} (h : drOK R l) (hr : R 0 1 < 7) (hk : k < R 0 0) (x1 : 1 ≤ x) (x2 : x ≤ 9) (y1 : 1 ≤ y) (y2 : y ≤ 99) : drOK (uRop R k x y) l := by
  obtain ⟨a1, a2, a3, a4, a5, a6, a7, a8, a9, a10, a11, a12⟩ := h
  obtain ⟨u1, u2, u3, u5⟩ := uRop_1 R k x y
  refine ⟨a1, by rw [u5]; omega, a3, a4, a5, a6, a7, a8, fun j hj => ?_, a10, a11, by rw [u5, Nat.pow_succ]; omega⟩
  rw [u5] at hj
  by_cases e : j = R 0 1
  · rw [e, u1, u2, u3]; exact ⟨hk, x1, x2, y1, y2⟩
  · rw [uRop_2 R k x y (by omega) 4 (by omega), uRop_2 R k x y (by omega) 5 (by omega), uRop_2 R k x y (by omega) 6 (by omega)]
    exact a9 j (by omega)
theorem uRop_F {R : Nat → Nat → Nat} {l k x y : Nat} {fl ta re ro ha bo mu lo : Int32} {ki wi ba md at_ pu be st bw bd : (Nat → Int32)} (h : drF R l fl ta re ro ha bo mu lo ki wi ba md at_ pu be st bw bd) : drF (uRop R k x y) l fl ta re (nI (R 0 1 + 1)) ha bo mu lo ki wi ba md (upd at_ (R 0 1) (nI k)) (upd pu (R 0 1) (nI x)) (upd be (R 0 1) (nI y)) st bw bd := by
  obtain ⟨a1, a2, a3, a4, a5, a6, a7, a8, a9, a10, a11, a12, a13, a14, a15, a16, a17, a18⟩ := h
  obtain ⟨u1, u2, u3, u5⟩ := uRop_1 R k x y
  refine ⟨a1, a2, a3, by rw [u5], a5, a6, a7, a8, a9, a10, a11, a12, ?_, ?_, ?_, a16, a17, a18⟩
  · rw [u5]; exact rw_new a13 u1 (fun i hi => uRop_2 R k x y hi 4 (by omega))
  · rw [u5]; exact rw_new a14 u2 (fun i hi => uRop_2 R k x y hi 5 (by omega))
  · rw [u5]; exact rw_new a15 u3 (fun i hi => uRop_2 R k x y hi 6 (by omega))
/-- a hand more -/
def uHan (R : Nat → Nat → Nat) (x : Nat) : Nat → Nat → Nat := ru (ru R 0 2 (R 0 2 + 1)) 7 (R 0 2) x
theorem uHan_1 (R : Nat → Nat → Nat) (x : Nat) : uHan R x 7 (R 0 2) = x ∧ uHan R x 0 2 = R 0 2 + 1 := by
  refine ⟨?_, ?_⟩ <;> simp [uHan, ru]
theorem uHan_2 (R : Nat → Nat → Nat) (x : Nat) {i : Nat} (hi : i < R 0 2) (a : Nat) (ha : 1 ≤ a) : uHan R x a i = R a i := by
  unfold uHan
  rw [ru_b (by omega), ru_a (by omega)]
theorem uHan_ok {R : Nat → Nat → Nat} {l x : Nat} (h : drOK R l) (hr : R 0 2 < 6) (x1 : 1 ≤ x) (x2 : x ≤ 99) : drOK (uHan R x) l := by
  obtain ⟨a1, a2, a3, a4, a5, a6, a7, a8, a9, a10, a11, a12⟩ := h
  obtain ⟨u1, u5⟩ := uHan_1 R x
  refine ⟨a1, a2, by rw [u5]; omega, a4, a5, a6, a7, a8, a9, fun j hj => ?_, a11, a12⟩
  rw [u5] at hj
  by_cases e : j = R 0 2
  · rw [e, u1]; exact ⟨x1, x2⟩
  · rw [uHan_2 R x (by omega) 7 (by omega)]
    exact a10 j (by omega)
theorem uHan_F {R : Nat → Nat → Nat} {l x : Nat} {fl ta re ro ha bo mu lo : Int32} {ki wi ba md at_ pu be st bw bd : (Nat → Int32)} (h : drF R l fl ta re ro ha bo mu lo ki wi ba md at_ pu be st bw bd) : drF (uHan R x) l fl ta re ro (nI (R 0 2 + 1)) bo mu lo ki wi ba md at_ pu be (upd st (R 0 2) (nI x)) bw bd := by
  obtain ⟨a1, a2, a3, a4, a5, a6, a7, a8, a9, a10, a11, a12, a13, a14, a15, a16, a17, a18⟩ := h
  obtain ⟨u1, u5⟩ := uHan_1 R x
  refine ⟨a1, a2, a3, a4, by rw [u5], a6, a7, a8, a9, a10, a11, a12, a13, a14, a15, ?_, a17, a18⟩
  rw [u5]; exact rw_new a16 u1 (fun i hi => uHan_2 R x hi 7 (by omega))
/-- a boat more -/
def uBoa (R : Nat → Nat → Nat) (x y : Nat) : Nat → Nat → Nat := ru (ru (ru R 0 3 (R 0 3 + 1)) 8 (R 0 3) x) 9 (R 0 3) y
theorem uBoa_1 (R : Nat → Nat → Nat) (x y : Nat) : uBoa R x y 8 (R 0 3) = x ∧ uBoa R x y 9 (R 0 3) = y ∧ uBoa R x y 0 3 = R 0 3 + 1 := by
  refine ⟨?_, ?_, ?_⟩ <;> simp [uBoa, ru]
theorem uBoa_2 (R : Nat → Nat → Nat) (x y : Nat) {i : Nat} (hi : i < R 0 3) (a : Nat) (ha : 1 ≤ a) : uBoa R x y a i = R a i := by
  unfold uBoa
  rw [ru_b (by omega), ru_b (by omega), ru_a (by omega)]
theorem uBoa_ok {R : Nat → Nat → Nat} {l x y : Nat} (h : drOK R l) (hr : R 0 3 < 5) (x1 : 1 ≤ x) (x2 : x ≤ 30) (y2 : y ≤ 60) : drOK (uBoa R x y) l := by
  obtain ⟨a1, a2, a3, a4, a5, a6, a7, a8, a9, a10, a11, a12⟩ := h
  obtain ⟨u1, u2, u5⟩ := uBoa_1 R x y
  refine ⟨a1, a2, a3, by rw [u5]; omega, a5, a6, a7, a8, a9, a10, fun j hj => ?_, a12⟩
  rw [u5] at hj
  by_cases e : j = R 0 3
  · rw [e, u1, u2]; exact ⟨x1, x2, y2⟩
  · rw [uBoa_2 R x y (by omega) 8 (by omega), uBoa_2 R x y (by omega) 9 (by omega)]
    exact a11 j (by omega)
theorem uBoa_F {R : Nat → Nat → Nat} {l x y : Nat} {fl ta re ro ha bo mu lo : Int32} {ki wi ba md at_ pu be st bw bd : (Nat → Int32)} (h : drF R l fl ta re ro ha bo mu lo ki wi ba md at_ pu be st bw bd) : drF (uBoa R x y) l fl ta re ro ha (nI (R 0 3 + 1)) mu lo ki wi ba md at_ pu be st (upd bw (R 0 3) (nI x)) (upd bd (R 0 3) (nI y)) := by
  obtain ⟨a1, a2, a3, a4, a5, a6, a7, a8, a9, a10, a11, a12, a13, a14, a15, a16, a17, a18⟩ := h
  obtain ⟨u1, u2, u5⟩ := uBoa_1 R x y
  refine ⟨a1, a2, a3, a4, a5, by rw [u5], a7, a8, a9, a10, a11, a12, a13, a14, a15, a16, ?_, ?_⟩
  · rw [u5]; exact rw_new a17 u1 (fun i hi => uBoa_2 R x y hi 8 (by omega))
  · rw [u5]; exact rw_new a18 u2 (fun i hi => uBoa_2 R x y hi 9 (by omega))
/-- mud told -/
def uMud (R : Nat → Nat → Nat) (k x : Nat) : Nat → Nat → Nat := ru (ru R 0 6 (R 0 6 + 1)) 10 k (x + 1)
theorem uMud_ok {R : Nat → Nat → Nat} {l k x : Nat} (h : drOK R l) (hx : x ≤ 900) : drOK (uMud R k x) l := by
  obtain ⟨a1, a2, a3, a4, a5, a6, a7, a8, a9, a10, a11, a12⟩ := h
  refine ⟨a1, a2, a3, a4, a5, a6, a7, fun r hr => ?_, a9, a10, a11, a12⟩
  have := a8 r hr
  by_cases e : r = k
  · subst e
    refine ⟨this.1, this.2.1, this.2.2.1, this.2.2.2.1, this.2.2.2.2.1, ?_⟩
    show ru (ru R 0 6 (R 0 6 + 1)) 10 r (x + 1) 10 r ≤ 901
    rw [ru_s]; omega
  · refine ⟨this.1, this.2.1, this.2.2.1, this.2.2.2.1, this.2.2.2.2.1, ?_⟩
    show ru (ru R 0 6 (R 0 6 + 1)) 10 k (x + 1) 10 r ≤ 901
    rw [ru_b e, ru_a (by decide)]; exact this.2.2.2.2.2
theorem uMud_F {R : Nat → Nat → Nat} {l k x : Nat} {fl ta re ro ha bo mu lo : Int32} {ki wi ba md at_ pu be st bw bd : (Nat → Int32)} (h : drF R l fl ta re ro ha bo mu lo ki wi ba md at_ pu be st bw bd) : drF (uMud R k x) l fl ta re ro ha bo (nI (R 0 6 + 1)) lo ki wi ba (upd md k (nI x)) at_ pu be st bw bd := by
  obtain ⟨a1, a2, a3, a4, a5, a6, a7, a8, a9, a10, a11, a12, a13, a14, a15, a16, a17, a18⟩ := h
  refine ⟨a1, a2, a3, a4, a5, a6, rfl, a8, a9, a10, a11, fun r hr => ?_, a13, a14, a15, a16, a17, a18⟩
  by_cases e : r = k
  · subst e
    show _ = mI (ru (ru R 0 6 (R 0 6 + 1)) 10 r (x + 1) 10 r)
    rw [upd_s, ru_s]; rfl
  · show _ = mI (ru (ru R 0 6 (R 0 6 + 1)) 10 k (x + 1) 10 r)
    rw [upd_n _ _ e, ru_b e, ru_a (by decide)]; exact a12 r hr
theorem loose_ok {R : Nat → Nat → Nat} {l k : Nat} (h : drOK R l) (hk : k < R 0 1) : drOK R (l ||| 2 ^ k) := by
  obtain ⟨a1, a2, a3, a4, a5, a6, a7, a8, a9, a10, a11, a12⟩ := h
  exact ⟨a1, a2, a3, a4, a5, a6, a7, a8, a9, a10, a11, or_lt_k a12 hk⟩
theorem loose_F {R : Nat → Nat → Nat} {l k : Nat} {fl ta re ro ha bo mu lo : Int32} {ki wi ba md at_ pu be st bw bd : (Nat → Int32)} (h : drF R l fl ta re ro ha bo mu lo ki wi ba md at_ pu be st bw bd) : drF R (l ||| 2 ^ k) fl ta re ro ha bo mu (nI (l ||| 2 ^ k)) ki wi ba md at_ pu be st bw bd := by
  obtain ⟨a1, a2, a3, a4, a5, a6, a7, a8, a9, a10, a11, a12, a13, a14, a15, a16, a17, a18⟩ := h
  exact ⟨a1, a2, a3, a4, a5, a6, a7, rfl, a9, a10, a11, a12, a13, a14, a15, a16, a17, a18⟩
/-- what the names are of -/
def nmS (n k : Nat) (c : Nat) (lines nums sorts nums2 : (Nat → Int32)) : Prop := ∀ i, i < c → (lines i = 1 ∧ sorts i = 0 ∧ ∃ r, r < n ∧ nums i = nI r ∧ nums2 i = nI r) ∨ (lines i = 2 ∧ sorts i = 1 ∧ ∃ r, r < k ∧ nums i = nI r ∧ nums2 i = nI r) ∨ (¬ lines i = 1 ∧ ¬ lines i = 2 ∧ sorts i = 2)
theorem nmS_1 {n k c : Nat} {lines nums sorts nums2 : (Nat → Int32)} (h : nmS n k c lines nums sorts nums2) : ∀ i, i < c → (lines i = 1 ∧ sorts i = 0 ∧ ∃ r, r < n ∧ nums i = nI r ∧ nums2 i = nI r) ∨ (¬ lines i = 1 ∧ ¬ sorts i = 0) := by
  intro i hi
  rcases h i hi with a | ⟨a, b, -⟩ | ⟨a, b, c⟩
  · exact Or.inl a
  · exact Or.inr ⟨by rw [a]; decide, by rw [b]; decide⟩
  · exact Or.inr ⟨a, by rw [c]; decide⟩
theorem nmS_2 {n k c : Nat} {lines nums sorts nums2 : (Nat → Int32)} (h : nmS n k c lines nums sorts nums2) : ∀ i, i < c → (lines i = 2 ∧ sorts i = 1 ∧ ∃ r, r < k ∧ nums i = nI r ∧ nums2 i = nI r) ∨ (¬ lines i = 2 ∧ ¬ sorts i = 1) := by
  intro i hi
  rcases h i hi with ⟨a, b, -⟩ | a | ⟨a, b, c⟩
  · exact Or.inr ⟨by rw [a]; decide, by rw [b]; decide⟩
  · exact Or.inl a
  · exact Or.inr ⟨b, by rw [c]; decide⟩
theorem nmS_up {n k c n' k' : Nat} {lines nums sorts nums2 : (Nat → Int32)} (h : nmS n k c lines nums sorts nums2) (hn : n ≤ n') (hk : k ≤ k') {li so nu : Int32} (hx : (li = 1 ∧ so = 0 ∧ ∃ r, r < n' ∧ nu = nI r) ∨ (li = 2 ∧ so = 1 ∧ ∃ r, r < k' ∧ nu = nI r) ∨ (¬ li = 1 ∧ ¬ li = 2 ∧ so = 2)) : nmS n' k' (c + 1) (upd lines c li) (upd nums c nu) (upd sorts c so) (upd nums2 c nu) := by
  intro i hi
  by_cases e : i = c
  · subst e
    rw [upd_s, upd_s, upd_s, upd_s]
    rcases hx with ⟨a, b, r, hr, e⟩ | ⟨a, b, r, hr, e⟩ | a
    · exact Or.inl ⟨a, b, r, hr, e, e⟩
    · exact Or.inr (Or.inl ⟨a, b, r, hr, e, e⟩)
    · exact Or.inr (Or.inr a)
  · rw [upd_n _ _ e, upd_n _ _ e, upd_n _ _ e, upd_n _ _ e]
    rcases h i (by omega) with ⟨a, b, r, hr, e⟩ | ⟨a, b, r, hr, e⟩ | a
    · exact Or.inl ⟨a, b, r, by omega, e⟩
    · exact Or.inr (Or.inl ⟨a, b, r, by omega, e⟩)
    · exact Or.inr (Or.inr a)
