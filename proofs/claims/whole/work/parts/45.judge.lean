/-! judge, seed -/
def mI : Nat → Int32
  | 0 => -1
  | x + 1 => nI x
def juB (R : Nat → Nat → Nat) (D : Nat → Nat) (r : Nat) : Bool := decide (¬ mI (R 10 r) = -1) && decide (¬ mI (R 10 r) = nI (D r))
theorem L_judgeC {R : Nat → Nat → Nat} (hn : R 0 0 ≤ 6) {D : Nat → Nat} {mud : Nat → Int32} (hm : ∀ r, r < R 0 0 → mud r = mI (R 10 r)) {w co de sp ha : Nat → Int32} (hd : rw_ (R 0 0) de D) {be al si : Int32} {K : Int32 → Option (Int32 × (Nat → Int32) × (Nat → Int32) × (Nat → Int32) × (Nat → Int32) × (Nat → Int32) × Int32 × Int32 × Int32 × Int32)} (hK : ∀ t, cA (K t) (-2) 0) : ∀ (d r fuel : Nat) (tr : Int32), r + d = R 0 0 → d < fuel → cA (f_X10_judge_L19 K w co de sp ha be al si (nI (R 0 0)) mud fuel (nI r) tr) (lf (juB R D) d r) 0 := by
  intro d
  induction d with
  | zero =>
    intro r fuel tr hr hf
    obtain ⟨m, rfl⟩ := Nat.exists_eq_succ_of_ne_zero (show fuel ≠ 0 by omega)
    rw [f_X10_judge_L19, if_pos (nI_le (by omega) (by omega))]
    exact hK _
  | succ d ih =>
    intro r fuel tr hr hf
    obtain ⟨m, rfl⟩ := Nat.exists_eq_succ_of_ne_zero (show fuel ≠ 0 by omega)
    rw [f_X10_judge_L19, if_neg (nI_ge (by omega) (by omega))]
    simp only [inb_nI (show r < 6 by omega) (by decide), gd_true, nI_clamp (show r < 2 ^ 31 by omega), nI_1, hm r (by omega), hd r (by omega), lf]
    by_cases h : mI (R 10 r) = -1
    · rw [if_pos h, if_neg (by simp [juB, h])]
      exact ih (r + 1) m tr (by omega) (by omega)
    · rw [if_neg h]
      by_cases h2 : mI (R 10 r) = nI (D r)
      · rw [if_pos h2, if_neg (by simp [juB, h2])]
        exact ih (r + 1) m tr (by omega) (by omega)
      · rw [if_neg h2, if_pos (by simp [juB, h, h2])]
        exact ⟨_, _, _, _, _, _, _, _, rfl⟩
theorem L_judgeM {R : Nat → Nat → Nat} (hn : R 0 0 ≤ 6) {D : Nat → Nat} {mud : Nat → Int32} (hm : ∀ r, r < R 0 0 → mud r = mI (R 10 r)) {wi wa de sp : Nat → Int32} (hd : rw_ (R 0 0) de D) {be : Int32} {K : Int32 → Int32 → Option (Int32 × Int32 × Int32 × Int32 × (Nat → Int32) × (Nat → Int32) × (Nat → Int32) × (Nat → Int32) × Int32)} (hK : ∀ t u, mA (K t u) (-2) 0) : ∀ (d r fuel : Nat) (tr wh : Int32), r + d = R 0 0 → d < fuel → mA (f_X12_judge_L24 K 0 (nI (R 0 0)) mud wi wa de sp be fuel (nI r) tr wh) (lf (juB R D) d r) 0 := by
  intro d
  induction d with
  | zero =>
    intro r fuel tr wh hr hf
    obtain ⟨m, rfl⟩ := Nat.exists_eq_succ_of_ne_zero (show fuel ≠ 0 by omega)
    rw [f_X12_judge_L24, if_pos (nI_le (by omega) (by omega))]
    exact hK _ _
  | succ d ih =>
    intro r fuel tr wh hr hf
    obtain ⟨m, rfl⟩ := Nat.exists_eq_succ_of_ne_zero (show fuel ≠ 0 by omega)
    rw [f_X12_judge_L24, if_neg (nI_ge (by omega) (by omega))]
    simp only [inb_nI (show r < 6 by omega) (by decide), gd_true, nI_clamp (show r < 2 ^ 31 by omega), nI_1, hm r (by omega), hd r (by omega), lf]
    by_cases h : mI (R 10 r) = -1
    · rw [if_pos h, if_neg (by simp [juB, h])]
      exact ih (r + 1) m tr wh (by omega) (by omega)
    · rw [if_neg h]
      by_cases h2 : mI (R 10 r) = nI (D r)
      · rw [if_pos h2, if_neg (by simp [juB, h2])]
        exact ih (r + 1) m tr wh (by omega) (by omega)
      · rw [if_neg h2, if_pos (by simp [juB, h, h2])]
        exact ⟨_, _, _, _, _, rfl⟩
theorem j_judge {R : Nat → Nat → Nat} (hR : rvOK R) {L U f sd : Nat} {V : Nat → Nat} (hL : L < 2 ^ R 0 1) (hf : f < 2 ^ 16) {kind wide bank at_ pulls kind2 wide2 bank2 at2 pulls2 v : Nat → Int32} (T : tR R kind wide bank at_ pulls) (T2 : tR R kind2 wide2 bank2 at2 pulls2) (hv : vR (R 0 1) v L U f sd V) {mud mud2 : Nat → Int32} (hm : ∀ r, r < R 0 0 → mud r = mI (R 10 r)) (hm2 : ∀ r, r < R 0 0 → mud2 r = mI (R 10 r)) (w co de sp ha : Nat → Int32) (be al si tr : Int32) (th tr2 wh : Int32) (wi wa de2 sp2 : Nat → Int32) (be2 : Int32) :
    ∃ ans t, cA (f_X10_judge (nI L) (nI f) w co de sp ha be al si (nI (R 0 0)) (nI (R 0 1)) kind wide bank mud at_ pulls tr) ans t ∧ mA (f_X12_judge th tr2 wh (nI (R 0 0)) (nI (R 0 1)) kind2 wide2 bank2 mud2 at2 pulls2 v wi wa de2 sp2 be2) ans t := by
  have hn := hR.1.2.1
  obtain ⟨c1, c2, c3, c4, c5, c6, c7, c8, e, hw, hco, hde, hsp, hha, hbe, hal, hsi⟩ := s_pourNow hR hL hf T w co de sp ha be al si
  obtain ⟨m1, m2, m3, m4, m5, e2, k1, k2, k3, k4, k5⟩ := m_runsNow hR hL hf T2 hv wi wa de2 sp2 be2
  unfold f_X10_judge f_X12_judge
  rw [s_noRiver hR, bind_some', if_pos rfl, e, bind_some', e2, bind_some']
  dsimp only
  exact ⟨_, _, L_judgeC hn hm hde (fun _ => ⟨_, _, _, _, _, _, _, _, rfl⟩) (R 0 0) 0 2000 _ (by omega) (by omega), L_judgeM hn hm2 k3 (fun _ _ => ⟨_, _, _, _, _, rfl⟩) (R 0 0) 0 2000 _ _ (by omega) (by omega)⟩
theorem isSeed_or (p : Int32) : (f_X10_isSeed p = some 0 ∧ f_X12_in p 0 65536 = some 0) ∨ (∃ x, x ≤ 65536 ∧ p = nI x ∧ f_X10_isSeed p = some 1 ∧ f_X12_in p 0 65536 = some 1) := by
  unfold f_X10_isSeed f_X12_in
  by_cases h : p < 0
  · left; rw [if_pos h]; exact ⟨rfl, rfl⟩
  · rw [if_neg h]
    by_cases h2 : 65536 < p
    · left; rw [if_pos h2]; exact ⟨rfl, rfl⟩
    · right
      obtain ⟨x, hx, rfl⟩ := nat_of h
      refine ⟨x, ?_, rfl, ?_⟩
      · rw [i32_lt, nI_toInt hx] at h2
        have e1 : (65536 : Int32).toInt = 65536 := rfl
        omega
      · rw [if_neg h2]; exact ⟨rfl, rfl⟩
theorem j_seed {R : Nat → Nat → Nat} (hR : rvOK R) {L U f sd : Nat} {V : Nat → Nat} {v : Nat → Int32} (hv : vR (R 0 1) v L U f sd V) (hsd : sd ≤ 65536) (p1 tr th tr2 wh : Int32) :
    ∃ ans t sd' v', sd' ≤ 65536 ∧ f_X10_seed p1 (nI sd) (nI (R 0 0)) tr = some (ans, nI sd', t) ∧ f_X12_seed p1 th tr2 wh v = some (ans, 0, t, -1, v') ∧ vR (R 0 1) v' L U f sd' V := by
  have hk := hR.1.2.2.1
  unfold f_X10_seed f_X12_seed
  rw [s_noRiver hR, bind_some', if_pos rfl]
  rcases isSeed_or p1 with ⟨a1, a2⟩ | ⟨x, hx, rfl, a1, a2⟩
  · rw [a1, a2]
    exact ⟨0, 2, sd, v, hsd, rfl, rfl, hv⟩
  · rw [a1, a2]
    refine ⟨1, 0, x, upd v 15 (nI x), hx, rfl, rfl, fun j hj => ?_, fun j hj => ?_, ?_, upd_s _ _ _⟩
    · rw [upd_n _ _ (by omega)]; exact hv.1 j hj
    · rw [upd_n _ _ (by omega)]; exact hv.2.1 j hj
    · rw [upd_n _ _ (by omega)]; exact hv.2.2.1
