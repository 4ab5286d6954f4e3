/-! acts -/
theorem or_bit (L r j : Nat) : (L ||| 2 ^ r).testBit j = (L.testBit j || decide (r = j)) := by rw [Nat.testBit_or, Nat.testBit_two_pow]
theorem ld_bit (L r j : Nat) : (ld L (2 ^ r)).testBit j = (L.testBit j && !decide (r = j)) := by rw [ld_test, Nat.testBit_two_pow]
theorem or_lt_k {L r k : Nat} (hL : L < 2 ^ k) (hr : r < k) : L ||| 2 ^ r < 2 ^ k := Nat.or_lt_two_pow hL (Nat.pow_lt_pow_right (by decide) hr)
/-- a rope's state changed in the reference's row -/
theorem vR_lace {k : Nat} (hk : k ≤ 7) {v : (Nat → Int32)} {L U f sd r : Nat} (hr : r < k) {V : Nat → Nat} (h : vR k v L U f sd V) : vR k (upd v r 1) (L ||| 2 ^ r) U f sd V := by
  refine ⟨fun j hj => ?_, fun j hj => ?_, ?_, ?_⟩
  · by_cases e : j = r
    · subst e; rw [upd_s, or_bit]; simp; rfl
    · have e' : ¬ r = j := fun z => e z.symm
      rw [upd_n _ _ e, or_bit, h.1 j hj]; simp [e']
  · rw [upd_n _ _ (by omega)]; exact h.2.1 j hj
  · rw [upd_n _ _ (by omega)]; exact h.2.2.1
  · rw [upd_n _ _ (by omega)]; exact h.2.2.2
theorem vR_ease {k : Nat} (hk : k ≤ 7) {v : (Nat → Int32)} {L U f sd r : Nat} (hr : r < k) (hu : ¬ U.testBit r = true) {V : Nat → Nat} (h : vR k v L U f sd V) : vR k (upd v r 0) (ld L (2 ^ r)) U f sd V := by
  refine ⟨fun j hj => ?_, fun j hj => ?_, ?_, ?_⟩
  · by_cases e : j = r
    · subst e; rw [upd_s, ld_bit]; simp [hu]; rfl
    · have e' : ¬ r = j := fun z => e z.symm
      rw [upd_n _ _ e, ld_bit, h.1 j hj]; simp [e']
  · rw [upd_n _ _ (by omega)]; exact h.2.1 j hj
  · rw [upd_n _ _ (by omega)]; exact h.2.2.1
  · rw [upd_n _ _ (by omega)]; exact h.2.2.2
theorem vR_mend {k : Nat} (hk : k ≤ 7) {v : (Nat → Int32)} {L U f sd r : Nat} (hr : r < k) (hl : ¬ L.testBit r = true) {V : Nat → Nat} (h : vR k v L U f sd V) : vR k (upd (upd v r 0) (7 + r) 0) L (ld U (2 ^ r)) f sd (fun j => if j = r then 0 else V j) := by
  refine ⟨fun j hj => ?_, fun j hj => ?_, ?_, ?_⟩
  · rw [upd_n _ _ (by omega)]
    by_cases e : j = r
    · subst e; rw [upd_s, ld_bit]; simp [hl]; rfl
    · have e' : ¬ r = j := fun z => e z.symm
      rw [upd_n _ _ e, ld_bit, h.1 j hj]; simp [e']
  · by_cases e : j = r
    · subst e; rw [upd_s]; simp; rfl
    · rw [upd_n _ _ (by omega), upd_n _ _ (by omega), h.2.1 j hj]; simp [e]
  · rw [upd_n _ _ (by omega), upd_n _ _ (by omega)]; exact h.2.2.1
  · rw [upd_n _ _ (by omega), upd_n _ _ (by omega)]; exact h.2.2.2
theorem vR_flow {k : Nat} (hk : k ≤ 7) {v : (Nat → Int32)} {L U f sd y : Nat} {V : Nat → Nat} (h : vR k v L U f sd V) : vR k (upd v 14 (nI y)) L U y sd V := by
  refine ⟨fun j hj => ?_, fun j hj => ?_, upd_s _ _ _, ?_⟩
  · rw [upd_n _ _ (by omega)]; exact h.1 j hj
  · rw [upd_n _ _ (by omega)]; exact h.2.1 j hj
  · rw [upd_n _ _ (by omega)]; exact h.2.2.2
theorem z_add (r : Nat) : (0 : Int32) + nI r = nI r := (nI_add 0 r).trans (by rw [Nat.zero_add])
theorem j_lace {R : Nat → Nat → Nat} (hR : rvOK R) {cap : Nat} {l b f s : Int32} {w v : (Nat → Int32)} (hN : nowE R cap l b f s w v) {old cnt : Int32} {kl kb kf ks : (Nat → Int32)} {kw : (Nat → Nat → Int32)} {past : (Nat → Int32)} {acts : Int32} (hM : memE R cap old cnt kl kb kf ks kw past acts) {kind wide bank at_ pulls kind2 wide2 bank2 at2 pulls2 : Nat → Int32} (T : tR R kind wide bank at_ pulls) (T2 : tR R kind2 wide2 bank2 at2 pulls2) (p1 : Int32) (ww : (Nat → Int32)) (tr th tr2 wh : Int32) (wi wa de sp : (Nat → Int32)) (be : Int32) :
    ∃ o p, f_X10_lace p1 l b f s w old cnt kl kb kf ks kw ww (nI (R 0 0)) (nI (R 0 1)) wide at_ pulls tr = some o ∧ f_X12_lace p1 th tr2 wh (nI (R 0 0)) (nI (R 0 1)) kind2 wide2 bank2 at2 pulls2 v past acts wi wa de sp be = some p ∧ p.1 = o.1 ∧ p.2.1 = 0 ∧ p.2.2.1 = o.2.2.2.2.2.2.2.2.2.2 ∧ p.2.2.2.1 = -1 ∧ ¬ o.2.2.2.2.2.2.2.2.2.2 = 4 ∧ nowE R cap o.2.1 b f s w p.2.2.2.2.1 ∧ memE R cap o.2.2.1 o.2.2.2.1 o.2.2.2.2.1 o.2.2.2.2.2.1 o.2.2.2.2.2.2.1 o.2.2.2.2.2.2.2.1 o.2.2.2.2.2.2.2.2.1 p.2.2.2.2.2.1 p.2.2.2.2.2.2.1 := by
  have hk := hR.1.2.2.1
  have hn := hR.1.2.1
  obtain ⟨o1, p1', eo, ep, hM'⟩ := j_keep hR hN hM
  obtain ⟨⟨L, U, fl, sd, V⟩, ⟨c1, c2, c3, c4, c5⟩, g2, ⟨⟨k1, k2, k3, k4, k5⟩, k6⟩⟩ := id hN
  (try dsimp only at c1 c2 c3 c4 c5 k1 k2 k3 k4 k5 k6)
  subst c1; subst c2; subst c3; subst c4
  have g2' : vR (R 0 1) v L U fl sd V := g2
  unfold f_X10_lace f_X12_lace
  rcases isRope_or (show R 0 1 < 2 ^ 31 by omega) p1 with ⟨a1, a2⟩ | ⟨r, hr, rfl, a1, a2⟩
  · rw [a1, a2]
    exact ⟨_, _, rfl, rfl, rfl, rfl, rfl, rfl, by show ¬ (1 : Int32) = 4; decide, hN, hM⟩
  · have h4 := (hR.2.2.1 r hr).1
    rw [a1, a2, bind_some', bind_some', if_neg one_ne, if_neg one_ne, nI_or, isIn_nI (pow_k hk (Nat.or_lt_two_pow k1 k2)) (by omega), bind_some', Nat.testBit_or, z_add, inb_nI (show r < 16 by omega) (by decide), gd_true, nI_clamp (show r < 2 ^ 31 by omega), g2'.1 r hr]
    by_cases hl : L.testBit r = true
    · rw [if_pos (show (L.testBit r || U.testBit r) = true by simp [hl]), if_neg one_ne, if_pos hl, if_neg (show ¬ nI 1 = 0 by decide)]
      exact ⟨_, _, rfl, rfl, rfl, rfl, rfl, rfl, by show ¬ (5 : Int32) = 4; decide, hN, hM⟩
    · by_cases hu : U.testBit r = true
      · rw [if_pos (show (L.testBit r || U.testBit r) = true by simp [hu]), if_neg one_ne, if_neg hl, if_pos hu, if_neg (show ¬ nI 2 = 0 by decide)]
        exact ⟨_, _, rfl, rfl, rfl, rfl, rfl, rfl, by show ¬ (5 : Int32) = 4; decide, hN, hM⟩
      · have hL' := or_lt_k k1 hr
        have hv' := vR_lace hk hr g2'
        obtain ⟨w1, ew, hw1⟩ := s_narrow hR (pow_k hk hL') (w := ww) T.wide T.at_ T.pulls
        obtain ⟨m1, m2, m3, m4, m5, em, hwi, hrest⟩ := m_runsNow hR hL' (f := fl) (by omega) T2 hv' wi wa de sp be
        rw [if_neg (show ¬ (L.testBit r || U.testBit r) = true by simp [hl, hu]), if_pos rfl, if_neg hl, if_neg hu, if_pos (show nI 0 = 0 from rfl)]
        unfold f_X12_changesTo
        rw [eo, bind_some', nm_eq, s_l' _ (by omega), nI_or, ew, bind_some', ep, bind_some', z_add, inb_nI (show r < 16 by omega) (by decide), gd_true, nm_eq, nI_clamp (show r < 2 ^ 31 by omega), em, bind_some', inb_nI (show r < 7 by omega) (by decide), gd_true, gd_true, T.at_ r hr, T2.at_ r hr, inb_nI (show R 4 r < 6 by omega) (by decide), gd_true, gd_true, nI_clamp (show R 4 r < 2 ^ 31 by omega)]
        (try dsimp only)
        rw [hw1 _ h4, hwi _ h4]
        refine ⟨_, _, rfl, rfl, rfl, rfl, rfl, rfl, by show ¬ (0 : Int32) = 4; decide, ⟨(L ||| 2 ^ r, U, fl, sd, V), ⟨rfl, rfl, rfl, rfl, c5⟩, hv', ⟨⟨hL', k2, fun j x y => ?_, k4, k5⟩, k6⟩⟩, hM'⟩
        (try dsimp only at x y)
        rw [or_bit] at x
        by_cases e : r = j
        · subst e; exact hu y
        · simp [e] at x; exact k3 j x y
theorem j_ease {R : Nat → Nat → Nat} (hR : rvOK R) {cap : Nat} {l b f s : Int32} {w v : (Nat → Int32)} (hN : nowE R cap l b f s w v) {old cnt : Int32} {kl kb kf ks : (Nat → Int32)} {kw : (Nat → Nat → Int32)} {past : (Nat → Int32)} {acts : Int32} (hM : memE R cap old cnt kl kb kf ks kw past acts) {kind wide bank at_ pulls kind2 wide2 bank2 at2 pulls2 : Nat → Int32} (T : tR R kind wide bank at_ pulls) (T2 : tR R kind2 wide2 bank2 at2 pulls2) (p1 : Int32) (ww : (Nat → Int32)) (tr th tr2 wh : Int32) (wi wa de sp : (Nat → Int32)) (be : Int32) :
    ∃ o p, f_X10_ease p1 l b f s w old cnt kl kb kf ks kw ww (nI (R 0 0)) (nI (R 0 1)) wide at_ pulls tr = some o ∧ f_X12_ease p1 th tr2 wh (nI (R 0 0)) (nI (R 0 1)) kind2 wide2 bank2 at2 pulls2 v past acts wi wa de sp be = some p ∧ p.1 = o.1 ∧ p.2.1 = 0 ∧ p.2.2.1 = o.2.2.2.2.2.2.2.2.2.2 ∧ p.2.2.2.1 = -1 ∧ ¬ o.2.2.2.2.2.2.2.2.2.2 = 4 ∧ nowE R cap o.2.1 b f s w p.2.2.2.2.1 ∧ memE R cap o.2.2.1 o.2.2.2.1 o.2.2.2.2.1 o.2.2.2.2.2.1 o.2.2.2.2.2.2.1 o.2.2.2.2.2.2.2.1 o.2.2.2.2.2.2.2.2.1 p.2.2.2.2.2.1 p.2.2.2.2.2.2.1 := by
  have hk := hR.1.2.2.1
  have hn := hR.1.2.1
  obtain ⟨o1, p1', eo, ep, hM'⟩ := j_keep hR hN hM
  obtain ⟨⟨L, U, fl, sd, V⟩, ⟨c1, c2, c3, c4, c5⟩, g2, ⟨⟨k1, k2, k3, k4, k5⟩, k6⟩⟩ := id hN
  (try dsimp only at c1 c2 c3 c4 c5 k1 k2 k3 k4 k5 k6)
  subst c1; subst c2; subst c3; subst c4
  have g2' : vR (R 0 1) v L U fl sd V := g2
  unfold f_X10_ease f_X12_ease
  rcases isRope_or (show R 0 1 < 2 ^ 31 by omega) p1 with ⟨a1, a2⟩ | ⟨r, hr, rfl, a1, a2⟩
  · rw [a1, a2]
    exact ⟨_, _, rfl, rfl, rfl, rfl, rfl, rfl, by show ¬ (1 : Int32) = 4; decide, hN, hM⟩
  · have h4 := (hR.2.2.1 r hr).1
    rw [a1, a2, bind_some', bind_some', if_neg one_ne, if_neg one_ne, isIn_nI (pow_k hk k1) (by omega), bind_some', z_add, inb_nI (show r < 16 by omega) (by decide), gd_true, nI_clamp (show r < 2 ^ 31 by omega), g2'.1 r hr]
    by_cases hl : L.testBit r = true
    · have hu : ¬ U.testBit r = true := fun z => k3 r hl z
      have hL' : ld L (2 ^ r) < 2 ^ R 0 1 := Nat.lt_of_le_of_lt (ld_le _ _) k1
      have hv' := vR_ease hk hr hu g2'
      obtain ⟨w1, ew, hw1⟩ := s_narrow hR (pow_k hk hL') (w := ww) T.wide T.at_ T.pulls
      obtain ⟨m1, m2, m3, m4, m5, em, hwi, hrest⟩ := m_runsNow hR hL' (f := fl) (by omega) T2 hv' wi wa de sp be
      rw [if_pos hl, if_neg one_ne, if_pos hl, if_pos (show nI 1 = 1 from rfl)]
      unfold f_X12_changesTo
      rw [eo, bind_some', nm_eq, s_l' _ (by omega), andn_nI, ew, bind_some', ep, bind_some', z_add, inb_nI (show r < 16 by omega) (by decide), gd_true, nm_eq, nI_clamp (show r < 2 ^ 31 by omega), em, bind_some', inb_nI (show r < 7 by omega) (by decide), gd_true, gd_true, T.at_ r hr, T2.at_ r hr, inb_nI (show R 4 r < 6 by omega) (by decide), gd_true, gd_true, nI_clamp (show R 4 r < 2 ^ 31 by omega)]
      (try dsimp only)
      rw [hw1 _ h4, hwi _ h4]
      refine ⟨_, _, rfl, rfl, rfl, rfl, rfl, rfl, by show ¬ (0 : Int32) = 4; decide, ⟨(ld L (2 ^ r), U, fl, sd, V), ⟨rfl, rfl, rfl, rfl, c5⟩, hv', ⟨⟨hL', k2, fun j x y => ?_, k4, k5⟩, k6⟩⟩, hM'⟩
      (try dsimp only at x y)
      rw [ld_bit] at x
      have x' : L.testBit j = true := by revert x; cases L.testBit j <;> simp
      exact k3 j x' y
    · rw [if_neg hl, if_pos rfl, if_neg (show ¬ nI (if L.testBit r = true then 1 else if U.testBit r = true then 2 else 0) = 1 by rw [if_neg hl]; split <;> decide)]
      exact ⟨_, _, rfl, rfl, rfl, rfl, rfl, rfl, by show ¬ (5 : Int32) = 4; decide, hN, hM⟩
theorem j_mend {R : Nat → Nat → Nat} (hR : rvOK R) {cap : Nat} {l b f s : Int32} {w v : (Nat → Int32)} (hN : nowE R cap l b f s w v) {old cnt : Int32} {kl kb kf ks : (Nat → Int32)} {kw : (Nat → Nat → Int32)} {past : (Nat → Int32)} {acts : Int32} (hM : memE R cap old cnt kl kb kf ks kw past acts) (p1 : Int32) (tr th tr2 wh : Int32) :
    ∃ o p, f_X10_mend p1 l b f s w old cnt kl kb kf ks kw (nI (R 0 1)) tr = some o ∧ f_X12_mend p1 th tr2 wh (nI (R 0 1)) v past acts = some p ∧ p.1 = o.1 ∧ p.2.1 = 0 ∧ p.2.2.1 = o.2.2.2.2.2.2.2.2.2.2 ∧ p.2.2.2.1 = -1 ∧ ¬ o.2.2.2.2.2.2.2.2.2.2 = 4 ∧ nowE R cap l o.2.1 f s o.2.2.1 p.2.2.2.2.1 ∧ memE R cap o.2.2.2.1 o.2.2.2.2.1 o.2.2.2.2.2.1 o.2.2.2.2.2.2.1 o.2.2.2.2.2.2.2.1 o.2.2.2.2.2.2.2.2.1 o.2.2.2.2.2.2.2.2.2.1 p.2.2.2.2.2.1 p.2.2.2.2.2.2 := by
  have hk := hR.1.2.2.1
  obtain ⟨o1, p1', eo, ep, hM'⟩ := j_keep hR hN hM
  obtain ⟨⟨L, U, fl, sd, V⟩, ⟨c1, c2, c3, c4, c5⟩, g2, ⟨⟨k1, k2, k3, k4, k5⟩, k6⟩⟩ := id hN
  (try dsimp only at c1 c2 c3 c4 c5 k1 k2 k3 k4 k5 k6)
  subst c1; subst c2; subst c3; subst c4
  have g2' : vR (R 0 1) v L U fl sd V := g2
  unfold f_X10_mend f_X12_mend
  rcases isRope_or (show R 0 1 < 2 ^ 31 by omega) p1 with ⟨a1, a2⟩ | ⟨r, hr, rfl, a1, a2⟩
  · rw [a1, a2]
    exact ⟨_, _, rfl, rfl, rfl, rfl, rfl, rfl, by show ¬ (1 : Int32) = 4; decide, hN, hM⟩
  · rw [a1, a2, bind_some', bind_some', if_neg one_ne, if_neg one_ne, isIn_nI (pow_k hk k2) (by omega), bind_some', z_add, inb_nI (show r < 16 by omega) (by decide), gd_true, nI_clamp (show r < 2 ^ 31 by omega), g2'.1 r hr]
    by_cases hu : U.testBit r = true
    · have hl : ¬ L.testBit r = true := fun z => k3 r z hu
      have hU' : ld U (2 ^ r) < 2 ^ R 0 1 := Nat.lt_of_le_of_lt (ld_le _ _) k2
      have hv' := vR_mend hk hr hl g2'
      rw [if_pos hu, if_neg one_ne, if_neg hl, if_pos hu, if_pos (show nI 2 = 2 from rfl), eo, bind_some', nm_eq, s_l' _ (by omega), andn_nI, ep, bind_some', inb_nI (show r < 7 by omega) (by decide), gd_true, nm_eq, gd_true, nm_eq, show (7 : Int32) + nI r = nI (7 + r) from nI_add 7 r, inb_nI (show 7 + r < 16 by omega) (by decide), gd_true, nm_eq, nI_clamp (show 7 + r < 2 ^ 31 by omega)]
      refine ⟨_, _, rfl, rfl, rfl, rfl, rfl, rfl, by show ¬ (0 : Int32) = 4; decide, ⟨(L, ld U (2 ^ r), fl, sd, fun j => if j = r then 0 else V j), ⟨rfl, rfl, rfl, rfl, fun j hj => ?_⟩, hv', ⟨⟨k1, hU', fun j x y => ?_, k4, fun j hj => ?_⟩, k6⟩⟩, hM'⟩
      · (try dsimp only)
        by_cases e : j = r
        · subst e; rw [upd_s]; simp; rfl
        · rw [upd_n _ _ e, c5 j hj]; simp [e]
      · (try dsimp only at x y)
        rw [ld_bit] at y
        have y' : U.testBit j = true := by revert y; cases U.testBit j <;> simp
        exact k3 j x y'
      · have := k5 j hj
        (try dsimp only)
        split <;> omega
    · rw [if_neg hu, if_pos rfl, if_neg (show ¬ nI (if L.testBit r = true then 1 else if U.testBit r = true then 2 else 0) = 2 by rw [if_neg hu]; split <;> decide)]
      exact ⟨_, _, rfl, rfl, rfl, rfl, rfl, rfl, by show ¬ (6 : Int32) = 4; decide, hN, hM⟩
theorem isFlow_le {y : Nat} (hy : y < 2 ^ 16) (h : f_X10_isFlow (nI y) = some 1) : y ≤ 999 := by
  unfold f_X10_isFlow at h
  by_cases h1 : 999 < y
  · rw [if_neg (show ¬ nI y < 1 from nI_nlt (b := 1) (by omega) (by omega)), if_pos (show (999 : Int32) < nI y from nI_lt (a := 999) h1 (by omega))] at h
    cases h
  · omega
theorem j_rain {R : Nat → Nat → Nat} (hR : rvOK R) {cap : Nat} {l b f s : Int32} {w v : (Nat → Int32)} (hN : nowE R cap l b f s w v) {old cnt : Int32} {kl kb kf ks : (Nat → Int32)} {kw : (Nat → Nat → Int32)} {past : (Nat → Int32)} {acts : Int32} (hM : memE R cap old cnt kl kb kf ks kw past acts) (p1 : Int32) (tr th tr2 wh : Int32) :
    ∃ o p, f_X10_rain p1 l b f s w old cnt kl kb kf ks kw (nI (R 0 0)) tr = some o ∧ f_X12_rain p1 th tr2 wh v past acts = some p ∧ p.1 = o.1 ∧ p.2.1 = 0 ∧ p.2.2.1 = o.2.2.2.2.2.2.2.2.2 ∧ p.2.2.2.1 = -1 ∧ ¬ o.2.2.2.2.2.2.2.2.2 = 4 ∧ nowE R cap l b o.2.1 s w p.2.2.2.2.1 ∧ memE R cap o.2.2.1 o.2.2.2.1 o.2.2.2.2.1 o.2.2.2.2.2.1 o.2.2.2.2.2.2.1 o.2.2.2.2.2.2.2.1 o.2.2.2.2.2.2.2.2.1 p.2.2.2.2.2.1 p.2.2.2.2.2.2 := by
  have hk := hR.1.2.2.1
  obtain ⟨o1, p1', eo, ep, hM'⟩ := j_keep hR hN hM
  obtain ⟨⟨L, U, fl, sd, V⟩, ⟨c1, c2, c3, c4, c5⟩, g2, ⟨⟨k1, k2, k3, k4, k5⟩, k6⟩⟩ := id hN
  (try dsimp only at c1 c2 c3 c4 c5 k1 k2 k3 k4 k5 k6)
  subst c1; subst c2; subst c3; subst c4
  have g2' : vR (R 0 1) v L U fl sd V := g2
  unfold f_X10_rain f_X12_rain
  rw [s_noRiver hR, bind_some', if_pos rfl]
  rcases isFlow_or p1 with ⟨b1, b2⟩ | ⟨y, hy, rfl, b1, b2⟩
  · rw [b1, b2]
    exact ⟨_, _, rfl, rfl, rfl, rfl, rfl, rfl, by show ¬ (2 : Int32) = 4; decide, hN, hM⟩
  · have hy9 := isFlow_le hy b1
    rw [b1, b2, bind_some', bind_some', if_neg one_ne, if_neg one_ne, eo, bind_some', ep, bind_some', show inb 14 16 = true by decide, gd_true, nm_eq]
    exact ⟨_, _, rfl, rfl, rfl, rfl, rfl, rfl, by show ¬ (0 : Int32) = 4; decide, ⟨(L, U, y, sd, V), ⟨rfl, rfl, rfl, rfl, c5⟩, vR_flow hk g2', ⟨⟨k1, k2, k3, k4, k5⟩, hy9⟩⟩, hM'⟩
theorem j_year {R : Nat → Nat → Nat} (hR : rvOK R) {cap : Nat} {l b f s : Int32} {w v : (Nat → Int32)} (hN : nowE R cap l b f s w v) {old cnt : Int32} {kl kb kf ks : (Nat → Int32)} {kw : (Nat → Nat → Int32)} {past : (Nat → Int32)} {acts : Int32} (hM : memE R cap old cnt kl kb kf ks kw past acts) {kind wide bank at_ pulls kind2 wide2 bank2 at2 pulls2 : Nat → Int32} (T : tR R kind wide bank at_ pulls) (T2 : tR R kind2 wide2 bank2 at2 pulls2) {bears bears2 : (Nat → Int32)} (hb : rw_ (R 0 1) bears (R 6)) (hb2 : rw_ (R 0 1) bears2 (R 6)) (hcap : cap < 2 ^ 15) (ww co dd ss ha : (Nat → Int32)) (bb al si : Int32) (tr th tr2 wh : Int32) (wi wa de sp : (Nat → Int32)) (be : Int32) :
    ∃ o p, f_X10_year l b f s w old cnt kl kb kf ks kw ww co dd ss ha bb al si (nI (R 0 4)) (nI (R 0 0)) (nI (R 0 1)) kind wide bank at_ pulls bears tr = some o ∧ f_X12_year th tr2 wh (nI (R 0 4)) (nI (R 0 0)) (nI (R 0 1)) kind2 wide2 bank2 at2 pulls2 bears2 v past acts wi wa de sp be = some p ∧ p.1 = o.1 ∧ p.2.1 = 0 ∧ p.2.2.1 = o.2.2.2.2.2.2.2.2.2.2.2.2.2.2.2.2.2.2.2.2.2 ∧ p.2.2.2.1 = -1 ∧ ¬ o.2.2.2.2.2.2.2.2.2.2.2.2.2.2.2.2.2.2.2.2.2 = 4 ∧ nowE R (cap + 1) o.2.1 o.2.2.1 o.2.2.2.1 o.2.2.2.2.1 o.2.2.2.2.2.1 p.2.2.2.2.1 ∧ memE R cap o.2.2.2.2.2.2.1 o.2.2.2.2.2.2.2.1 o.2.2.2.2.2.2.2.2.1 o.2.2.2.2.2.2.2.2.2.1 o.2.2.2.2.2.2.2.2.2.2.1 o.2.2.2.2.2.2.2.2.2.2.2.1 o.2.2.2.2.2.2.2.2.2.2.2.2.1 p.2.2.2.2.2.1 p.2.2.2.2.2.2.1 := by
  have hk := hR.1.2.2.1
  obtain ⟨o1, p1', eo, ep, hM'⟩ := j_keep hR hN hM
  obtain ⟨⟨L, U, fl, sd, V⟩, ⟨c1, c2, c3, c4, c5⟩, g2, ⟨hq, k6⟩⟩ := id hN
  (try dsimp only at c1 c2 c3 c4 c5 hq k6)
  subst c1; subst c2; subst c3; subst c4
  obtain ⟨d1, d2, d3, d4, d5, d6, d7, d8, e, hw'⟩ := s_passYear hR (c := cap) (by omega) hq T hb c5 ww co dd ss ha bb al si (nI fl)
  obtain ⟨m1, m2, m3, m4, m5, m6, em, hv', -⟩ := m_goesBy hR (c := cap) (by omega) hq T2 hb2 g2 wi wa de sp be
  unfold f_X10_year f_X12_year
  rw [s_noRiver hR, bind_some', if_pos rfl, eo, bind_some', ep, bind_some', e, bind_some', em, bind_some']
  exact ⟨_, _, rfl, rfl, rfl, rfl, rfl, rfl, by show ¬ (0 : Int32) = 4; decide, ⟨(_, _, _, _, _), ⟨rfl, rfl, rfl, rfl, hw'⟩, hv', ⟨qOK_y hR hq, (yFl_le hR _).2⟩⟩, hM'⟩
