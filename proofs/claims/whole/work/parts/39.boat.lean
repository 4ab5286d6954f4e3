/-! boats -/
def paB (R : Nat → Nat → Nat) (W D : Nat → Nat) (b r : Nat) : Bool := decide (R 8 b ≤ W r) && decide (R 9 b ≤ D r)
theorem s_passed {R : Nat → Nat → Nat} (hR : rvOK R) {W D : Nat → Nat} (hW : ∀ r, r < R 0 0 → W r ≤ 40) (hD : ∀ r, r < R 0 0 → D r < 2 ^ 20) {w de bw bd : Nat → Int32} (hw : rw_ (R 0 0) w W) (hd : rw_ (R 0 0) de D) (hbw : rw_ (R 0 3) bw (R 8)) (hbd : rw_ (R 0 3) bd (R 9)) {b : Nat} (hb : b < R 0 3) : f_X9_passed (nI b) w de (nI (R 0 0)) bw bd = some (nI (bs (paB R W D b) (R 0 0))) := by
  have hn := hR.1.2.1
  have h5 := hR.1.2.2.2.2.1
  obtain ⟨-, h8, h9⟩ := hR.2.2.2.2 b hb
  unfold f_X9_passed
  refine gather (F := f_X9_passed_L5 (fun x => some x) (nI b) w de (nI (R 0 0)) bw bd) (k := fun x => some x) ?_ ?_ (by omega)
  · intro m acc; rw [f_X9_passed_L5, if_pos (nI_le (by omega) (by omega))]
  · intro m r hr
    have h40 := hW r hr
    have hDr := hD r hr
    rw [f_X9_passed_L5, if_neg (nI_ge (by omega) (by omega))]
    simp only [inb_nI (show r < 6 by omega) (by decide), inb_nI (show b < 5 by omega) (by decide), gd_true, nm_eq, nI_clamp (show r < 2 ^ 31 by omega), nI_clamp (show b < 2 ^ 31 by omega), hw r hr, hd r hr, hbw b hb, hbd b hb, nI_1]
    by_cases h : W r < R 8 b
    · rw [if_pos (nI_lt h (by omega)), bs_out (p := paB R W D b) (by simp [paB]; intro _; omega)]
    · rw [if_neg (nI_nlt (by omega) (by omega))]
      by_cases h2 : D r < R 9 b
      · rw [if_pos (nI_lt h2 (by omega)), bs_out (p := paB R W D b) (by simp [paB]; omega)]
      · rw [if_neg (nI_nlt (by omega) (by omega)), bs_in (by omega) (by simp [paB]; omega)]
theorem m_passing {R : Nat → Nat → Nat} (hR : rvOK R) {W D : Nat → Nat} (hW : ∀ r, r < R 0 0 → W r ≤ 40) (hD : ∀ r, r < R 0 0 → D r < 2 ^ 20) {w de bw bd : Nat → Int32} (hw : rw_ (R 0 0) w W) (hd : rw_ (R 0 0) de D) (hbw : rw_ (R 0 3) bw (R 8)) (hbd : rw_ (R 0 3) bd (R 9)) {b : Nat} (hb : b < R 0 3) : f_X12_passing (nI b) (nI (R 0 0)) bw bd w de = some (nI (bs (paB R W D b) (R 0 0))) := by
  have hn := hR.1.2.1
  have h5 := hR.1.2.2.2.2.1
  obtain ⟨-, h8, h9⟩ := hR.2.2.2.2 b hb
  unfold f_X12_passing
  refine gather (F := f_X12_passing_L4 (fun x => some x) (nI b) (nI (R 0 0)) bw bd w de) (k := fun x => some x) ?_ ?_ (by omega)
  · intro m acc; rw [f_X12_passing_L4, if_pos (nI_le (by omega) (by omega))]
  · intro m r hr
    have h40 := hW r hr
    have hDr := hD r hr
    rw [f_X12_passing_L4, if_neg (nI_ge (by omega) (by omega))]
    simp only [inb_nI (show r < 6 by omega) (by decide), inb_nI (show b < 5 by omega) (by decide), gd_true, nm_eq, nI_clamp (show r < 2 ^ 31 by omega), nI_clamp (show b < 2 ^ 31 by omega), hw r hr, hd r hr, hbw b hb, hbd b hb, nI_1]
    by_cases h : W r < R 8 b
    · rw [if_pos (nI_lt h (by omega)), bs_out0 (p := paB R W D b) (by simp [paB]; intro _; omega)]
    · rw [if_neg (nI_nlt (by omega) (by omega))]
      by_cases h2 : D r < R 9 b
      · rw [if_pos (nI_lt h2 (by omega)), bs_out0 (p := paB R W D b) (by simp [paB]; omega)]
      · rw [if_neg (nI_nlt (by omega) (by omega)), bs_in (by omega) (by simp [paB]; omega)]
theorem s_passedNow {R : Nat → Nat → Nat} (hR : rvOK R) {L f : Nat} (hL : L < 2 ^ R 0 1) (hf : f < 2 ^ 16) {kind wide bank at_ pulls bw bd : Nat → Int32} (T : tR R kind wide bank at_ pulls) (hbw : rw_ (R 0 3) bw (R 8)) (hbd : rw_ (R 0 3) bd (R 9)) {b : Nat} (hb : b < R 0 3) (w co de sp ha : Nat → Int32) (be al si : Int32) :
    ∃ w' co' de' sp' ha' be' al' si', f_X9_passedNow (nI b) w co de sp ha be al si (nI (R 0 0)) (nI (R 0 1)) kind wide bank at_ pulls bw bd (nI L) (nI f) = some (nI (bs (paB R (wN R L) (dp R (wN R L) f) b) (R 0 0)), w', co', de', sp', ha', be', al', si') := by
  obtain ⟨c1, c2, c3, c4, c5, c6, c7, c8, e, q1, q2⟩ := s_run hR (pow_k hR.1.2.2.1 hL) hf T.kind T.wide T.bank T.at_ T.pulls w co de sp ha be al si
  refine ⟨c1, c2, c3, c4, c5, c6, c7, c8, ?_⟩
  have hD : ∀ r, r < R 0 0 → dp R (wN R L) f r < 2 ^ 20 := fun r _ => Nat.lt_of_le_of_lt (dp_le R (wN R L) f r) (by omega)
  unfold f_X9_passedNow
  rw [e, bind_some']
  dsimp only
  rw [s_passed hR (fun r hr => (wN_le hR L hr).2) hD q1 q2.2.1 hbw hbd hb]; rfl
theorem j_passes {R : Nat → Nat → Nat} (hR : rvOK R) {L U f sd : Nat} {V : Nat → Nat} (hL : L < 2 ^ R 0 1) (hf : f < 2 ^ 16) {kind wide bank at_ pulls kind2 wide2 bank2 at2 pulls2 v : Nat → Int32} (T : tR R kind wide bank at_ pulls) (T2 : tR R kind2 wide2 bank2 at2 pulls2) (hv : vR (R 0 1) v L U f sd V) {bw bd bw2 bd2 : Nat → Int32} (hbw : rw_ (R 0 3) bw (R 8)) (hbd : rw_ (R 0 3) bd (R 9)) (hbw2 : rw_ (R 0 3) bw2 (R 8)) (hbd2 : rw_ (R 0 3) bd2 (R 9)) (p1 : Int32) (w co de sp ha : Nat → Int32) (be al si tr : Int32) (th tr2 wh : Int32) (wi wa de2 sp2 : Nat → Int32) (be2 : Int32) :
    ∃ ans t, cA (f_X10_passes p1 (nI L) (nI f) w co de sp ha be al si (nI (R 0 0)) (nI (R 0 1)) (nI (R 0 3)) kind wide bank at_ pulls bw bd tr) ans t ∧ mA (f_X12_passes p1 th tr2 wh (nI (R 0 0)) (nI (R 0 1)) (nI (R 0 3)) kind2 wide2 bank2 at2 pulls2 bw2 bd2 v wi wa de2 sp2 be2) ans t := by
  have h5 := hR.1.2.2.2.2.1
  have hD : ∀ r, r < R 0 0 → dp R (wN R L) f r < 2 ^ 20 := fun r _ => Nat.lt_of_le_of_lt (dp_le R (wN R L) f r) (by omega)
  unfold f_X10_passes f_X12_passes
  rcases isBoat_or (show R 0 3 < 2 ^ 31 by omega) p1 with ⟨a1, a2⟩ | ⟨b, hb, rfl, a1, a2⟩
  · rw [a1, a2]
    exact ⟨-1, 1, ⟨_, _, _, _, _, _, _, _, rfl⟩, ⟨_, _, _, _, _, rfl⟩⟩
  · obtain ⟨c1, c2, c3, c4, c5, c6, c7, c8, e⟩ := s_passedNow hR hL hf T hbw hbd hb w co de sp ha be al si
    obtain ⟨m1, m2, m3, m4, m5, e2, k1, k2, k3, k4, k5⟩ := m_runsNow hR hL hf T2 hv wi wa de2 sp2 be2
    rw [a1, a2, bind_some', bind_some', if_neg (show ¬ (1 : Int32) = 0 by decide), if_neg (show ¬ (1 : Int32) = 0 by decide), e, bind_some', e2, bind_some']
    dsimp only
    rw [m_passing hR (fun r hr => (wN_le hR L hr).2) hD k1 k3 hbw2 hbd2 hb]
    exact ⟨_, _, ⟨_, _, _, _, _, _, _, _, rfl⟩, ⟨_, _, _, _, _, rfl⟩⟩
theorem L_stuckC {n M : Nat} (hn : n ≤ 6) (hM : M < 2 ^ 31) {w co de sp ha : Nat → Int32} {be al si : Int32} {K : Int32 → Option (Int32 × (Nat → Int32) × (Nat → Int32) × (Nat → Int32) × (Nat → Int32) × (Nat → Int32) × Int32 × Int32 × Int32 × Int32)} (hK : ∀ t, cA (K t) (-2) 0) : ∀ (d r fuel : Nat) (tr : Int32), r + d = n → d < fuel → cA (f_X10_stuck_L33 K (nI M) w co de sp ha be al si (nI n) fuel (nI r) tr) (lf (fun r => !M.testBit r) d r) 0 := by
  intro d
  induction d with
  | zero =>
    intro r fuel tr hr hf
    obtain ⟨m, rfl⟩ := Nat.exists_eq_succ_of_ne_zero (show fuel ≠ 0 by omega)
    rw [f_X10_stuck_L33, if_pos (nI_le (by omega) (by omega))]
    exact hK _
  | succ d ih =>
    intro r fuel tr hr hf
    obtain ⟨m, rfl⟩ := Nat.exists_eq_succ_of_ne_zero (show fuel ≠ 0 by omega)
    rw [f_X10_stuck_L33, if_neg (nI_ge (by omega) (by omega)), isIn_nI hM (by omega), bind_some', nI_1]
    simp only [lf]
    by_cases h : M.testBit r = true
    · rw [if_pos h, if_neg (show ¬ (1 : Int32) = 0 by decide), if_neg (by simp [h])]
      exact ih (r + 1) m tr (by omega) (by omega)
    · rw [if_neg h, if_pos rfl, if_pos (by simp [h])]
      exact ⟨_, _, _, _, _, _, _, _, rfl⟩
theorem L_stuckM {n M : Nat} (hn : n ≤ 6) (hM : M < 2 ^ 31) {wi wa de sp : Nat → Int32} {be : Int32} {K : Int32 → Int32 → Option (Int32 × Int32 × Int32 × Int32 × (Nat → Int32) × (Nat → Int32) × (Nat → Int32) × (Nat → Int32) × Int32)} (hK : ∀ t u, mA (K t u) (-2) 0) : ∀ (d r fuel : Nat) (tr wh : Int32), r + d = n → d < fuel → mA (f_X12_stuck_L31 K (nI M) 0 (nI n) wi wa de sp be fuel (nI r) tr wh) (lf (fun r => !M.testBit r) d r) 0 := by
  intro d
  induction d with
  | zero =>
    intro r fuel tr wh hr hf
    obtain ⟨m, rfl⟩ := Nat.exists_eq_succ_of_ne_zero (show fuel ≠ 0 by omega)
    rw [f_X12_stuck_L31, if_pos (nI_le (by omega) (by omega))]
    exact hK _ _
  | succ d ih =>
    intro r fuel tr wh hr hf
    obtain ⟨m, rfl⟩ := Nat.exists_eq_succ_of_ne_zero (show fuel ≠ 0 by omega)
    rw [f_X12_stuck_L31, if_neg (nI_ge (by omega) (by omega)), bit_nI hM (by omega), bind_some', nI_1]
    simp only [lf]
    by_cases h : M.testBit r = true
    · rw [if_pos h, if_neg (show ¬ (1 : Int32) = 0 by decide), if_neg (by simp [h])]
      exact ih (r + 1) m tr wh (by omega) (by omega)
    · rw [if_neg h, if_pos rfl, if_pos (by simp [h])]
      exact ⟨_, _, _, _, _, rfl⟩
theorem j_stuck {R : Nat → Nat → Nat} (hR : rvOK R) {L U f sd : Nat} {V : Nat → Nat} (hL : L < 2 ^ R 0 1) (hf : f < 2 ^ 16) {kind wide bank at_ pulls kind2 wide2 bank2 at2 pulls2 v : Nat → Int32} (T : tR R kind wide bank at_ pulls) (T2 : tR R kind2 wide2 bank2 at2 pulls2) (hv : vR (R 0 1) v L U f sd V) {bw bd bw2 bd2 : Nat → Int32} (hbw : rw_ (R 0 3) bw (R 8)) (hbd : rw_ (R 0 3) bd (R 9)) (hbw2 : rw_ (R 0 3) bw2 (R 8)) (hbd2 : rw_ (R 0 3) bd2 (R 9)) (p1 : Int32) (w co de sp ha : Nat → Int32) (be al si tr : Int32) (th tr2 wh : Int32) (wi wa de2 sp2 : Nat → Int32) (be2 : Int32) :
    ∃ ans t, cA (f_X10_stuck p1 (nI L) (nI f) w co de sp ha be al si (nI (R 0 0)) (nI (R 0 1)) (nI (R 0 3)) kind wide bank at_ pulls bw bd tr) ans t ∧ mA (f_X12_stuck p1 th tr2 wh (nI (R 0 0)) (nI (R 0 1)) (nI (R 0 3)) kind2 wide2 bank2 at2 pulls2 bw2 bd2 v wi wa de2 sp2 be2) ans t := by
  have hn := hR.1.2.1
  have h5 := hR.1.2.2.2.2.1
  have hD : ∀ r, r < R 0 0 → dp R (wN R L) f r < 2 ^ 20 := fun r _ => Nat.lt_of_le_of_lt (dp_le R (wN R L) f r) (by omega)
  unfold f_X10_stuck f_X12_stuck
  rcases isBoat_or (show R 0 3 < 2 ^ 31 by omega) p1 with ⟨a1, a2⟩ | ⟨b, hb, rfl, a1, a2⟩
  · rw [a1, a2]
    exact ⟨-1, 1, ⟨_, _, _, _, _, _, _, _, rfl⟩, ⟨_, _, _, _, _, rfl⟩⟩
  · obtain ⟨c1, c2, c3, c4, c5, c6, c7, c8, e⟩ := s_passedNow hR hL hf T hbw hbd hb w co de sp ha be al si
    obtain ⟨m1, m2, m3, m4, m5, e2, k1, k2, k3, k4, k5⟩ := m_runsNow hR hL hf T2 hv wi wa de2 sp2 be2
    have hlt := bs_lt (paB R (wN R L) (dp R (wN R L) f) b) (R 0 0)
    have h64 : 2 ^ R 0 0 ≤ 2 ^ 6 := Nat.pow_le_pow_right (by decide) hn
    rw [a1, a2, bind_some', bind_some', if_neg (show ¬ (1 : Int32) = 0 by decide), if_neg (show ¬ (1 : Int32) = 0 by decide), e, bind_some', e2, bind_some']
    dsimp only
    rw [m_passing hR (fun r hr => (wN_le hR L hr).2) hD k1 k3 hbw2 hbd2 hb, bind_some']
    exact ⟨_, _, L_stuckC hn (by omega) (fun _ => ⟨_, _, _, _, _, _, _, _, rfl⟩) (R 0 0) 0 2000 _ (by omega) (by omega), L_stuckM hn (by omega) (fun _ _ => ⟨_, _, _, _, _, rfl⟩) (R 0 0) 0 2000 _ _ (by omega) (by omega)⟩
