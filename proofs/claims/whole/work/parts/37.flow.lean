/-! the least flow that does something -/
def lf (P : Nat → Bool) : Nat → Nat → Int32
  | 0, _ => -2
  | d + 1, y => if P y = true then nI y else lf P d (y + 1)
theorem lf_skip {P : Nat → Bool} : ∀ (e d y : Nat), (∀ z, y ≤ z → z < y + e → P z = false) → lf P (e + d) y = lf P d (y + e)
  | 0, d, y, _ => by simp
  | e + 1, d, y, h => by
    rw [show e + 1 + d = (e + d) + 1 by omega, lf, if_neg (by rw [h y (by omega) (by omega)]; decide), lf_skip e d (y + 1) (fun z h1 h2 => h z (by omega) (by omega)), show y + 1 + e = y + (e + 1) by omega]
theorem lf_congr {P Q : Nat → Bool} (h : ∀ y, P y = Q y) : ∀ d y, lf P d y = lf Q d y
  | 0, _ => rfl
  | d + 1, y => by simp only [lf, h y, lf_congr h d (y + 1)]
theorem lf_congr2 {P Q : Nat → Bool} : ∀ d y, (∀ z, y ≤ z → z < y + d → P z = Q z) → lf P d y = lf Q d y
  | 0, _, _ => rfl
  | d + 1, y, h => by simp only [lf, h y (Nat.le_refl _) (by omega), lf_congr2 d (y + 1) (fun z h1 h2 => h z (by omega) (by omega))]
/-- the class's leastFlow -/
theorem L_least {R : Nat → Nat → Nat} (hR : rvOK R) {W : Nat → Nat} (hW : ∀ r, r < R 0 0 → 1 ≤ W r ∧ W r ≤ 40) {w kind bank : Nat → Int32} (hw : rw_ (R 0 0) w W) (hk : rw_ (R 0 0) kind (R 1)) (hb : rw_ (R 0 0) bank (R 3)) {r : Nat} (hr : r < R 0 0) (B : Int32) {K : (Nat → Int32) → (Nat → Int32) → (Nat → Int32) → (Nat → Int32) → Int32 → Int32 → Int32 → Option (Int32 × (Nat → Int32) × (Nat → Int32) × (Nat → Int32) × (Nat → Int32) × Int32 × Int32 × Int32)} (hK : ∀ co de sp ha be al si, ∃ co' de' sp' ha' be' al' si', K co de sp ha be al si = some (-2, co', de', sp', ha', be', al', si')) :
    ∀ (d y fuel : Nat) (co de sp ha : Nat → Int32) (be al si : Int32), (y + d = 1000 ∨ (d = 0 ∧ 1000 ≤ y ∧ y < 2 ^ 16)) → d < fuel → ∃ co' de' sp' ha' be' al' si', f_X8_leastFlow_L16 K (nI r) B w (nI (R 0 0)) kind bank fuel (nI y) co de sp ha be al si = some (lf (fun y => decide (¬ nI (dp R W y r) ≤ B)) d y, co', de', sp', ha', be', al', si') := by
  have hn := hR.1.2.1
  intro d
  induction d with
  | zero =>
    intro y fuel co de sp ha be al si hy hf
    obtain ⟨m, rfl⟩ := Nat.exists_eq_succ_of_ne_zero (show fuel ≠ 0 by omega)
    rw [f_X8_leastFlow_L16, if_pos (show (999 : Int32) < nI y from nI_lt (a := 999) (by omega) (by omega))]
    exact hK _ _ _ _ _ _ _
  | succ d ih =>
    intro y fuel co de sp ha be al si hy hf
    obtain ⟨m, rfl⟩ := Nat.exists_eq_succ_of_ne_zero (show fuel ≠ 0 by omega)
    obtain ⟨c2, c3, c4, c5, c6, c7, c8, e, q⟩ := s_pour hR hW (show y < 2 ^ 16 by omega) hw hk hb co de sp ha be al si
    rw [f_X8_leastFlow_L16, if_neg (show ¬ (999 : Int32) < nI y from nI_nlt (a := 999) (by omega) (by omega)), e, bind_some']
    simp only [inb_nI (show r < 6 by omega) (by decide), gd_true, nI_clamp (show r < 2 ^ 31 by omega), q.2.1 r hr, nI_1, lf]
    by_cases h : nI (dp R W y r) ≤ B
    · rw [if_pos h, if_neg (by simp [h])]
      exact ih (y + 1) m _ _ _ _ _ _ _ (by omega) (by omega)
    · rw [if_neg h, if_pos (by simp [h])]
      exact ⟨_, _, _, _, _, _, _, rfl⟩
theorem dp_small (R : Nat → Nat → Nat) (W : Nat → Nat) {y r b : Nat} (hW : 1 ≤ W r) (h : y < (b + 1) * W r) : dp R W y r ≤ b := by
  have h1 : wt R W y r < (b + 1) * W r := Nat.lt_of_le_of_lt (wt_le R W y r) h
  have h2 : wt R W y r / W r < b + 1 := (Nat.div_lt_iff_lt_mul (by omega)).mpr h1
  unfold dp; omega
/-- leastFlow for a depth that is b, at the most 99 and not below 0 -/
theorem s_least {R : Nat → Nat → Nat} (hR : rvOK R) {W : Nat → Nat} (hW : ∀ r, r < R 0 0 → 1 ≤ W r ∧ W r ≤ 40) {w kind bank : Nat → Int32} (hw : rw_ (R 0 0) w W) (hk : rw_ (R 0 0) kind (R 1)) (hb : rw_ (R 0 0) bank (R 3)) {r : Nat} (hr : r < R 0 0) {b : Nat} (hb99 : b ≤ 99) (co de sp ha : Nat → Int32) (be al si : Int32) :
    ∃ co' de' sp' ha' be' al' si', f_X8_leastFlow (nI r) (nI b) w co de sp ha be al si (nI (R 0 0)) kind bank = some (lf (fun y => decide (b < dp R W y r)) 999 1, co', de', sp', ha', be', al', si') := by
  have hn := hR.1.2.1
  have hWr := hW r hr
  have hmul : (b + 1) * W r ≤ 100 * 40 := Nat.mul_le_mul (by omega) hWr.2
  have hpos : 1 ≤ (b + 1) * W r := Nat.mul_le_mul (show 1 ≤ b + 1 by omega) hWr.1
  unfold f_X8_leastFlow
  simp only [inb_nI (show r < 6 by omega) (by decide), gd_true, nm_eq, nI_clamp (show r < 2 ^ 31 by omega), hw r hr, nI_1, pk_mul, max1_nI (show (b + 1) * W r < 2 ^ 31 by omega)]
  rw [show max 1 ((b + 1) * W r) = (b + 1) * W r by omega]
  have hP : ∀ y, y < 2 ^ 16 → decide (¬ nI (dp R W y r) ≤ nI b) = decide (b < dp R W y r) := by
    intro y hy
    have := dp_le R W y r
    by_cases h : b < dp R W y r
    · rw [decide_eq_true h, decide_eq_true (nI_ge h (by omega))]
    · rw [decide_eq_false h, decide_eq_false (fun z => z (nI_le (by omega) (by omega)))]
  have hlf : ∀ d y, y + d ≤ 2 ^ 16 → lf (fun y => decide (¬ nI (dp R W y r) ≤ nI b)) d y = lf (fun y => decide (b < dp R W y r)) d y := fun d y h => lf_congr2 d y (fun z h1 h2 => hP z (by omega))
  by_cases hz : (b + 1) * W r ≤ 1000
  · obtain ⟨c2, c3, c4, c5, c6, c7, c8, e⟩ := L_least hR hW hw hk hb hr (nI b) (K := fun t_comes_16 t_depth_16 t_spill_16 t_harmAt_16 t_below_16 t_allHarm_16 t_spilling_16 => some ((-2), t_comes_16, t_depth_16, t_spill_16, t_harmAt_16, t_below_16, t_allHarm_16, t_spilling_16)) (fun _ _ _ _ _ _ _ => ⟨_, _, _, _, _, _, _, rfl⟩) (1000 - (b + 1) * W r) ((b + 1) * W r) 2000 co de sp ha be al si (by omega) (by omega)
    refine ⟨c2, c3, c4, c5, c6, c7, c8, e.trans ?_⟩
    rw [hlf _ _ (by omega)]
    have sk := lf_skip (P := fun y => decide (b < dp R W y r)) ((b + 1) * W r - 1) (1000 - (b + 1) * W r) 1 (fun z h1 h2 => decide_eq_false (by have := dp_small R W (y := z) (r := r) (b := b) hWr.1 (by omega); omega))
    rw [show (b + 1) * W r - 1 + (1000 - (b + 1) * W r) = 999 by omega, show 1 + ((b + 1) * W r - 1) = (b + 1) * W r by omega] at sk
    rw [sk]
  · obtain ⟨c2, c3, c4, c5, c6, c7, c8, e⟩ := L_least hR hW hw hk hb hr (nI b) (K := fun t_comes_16 t_depth_16 t_spill_16 t_harmAt_16 t_below_16 t_allHarm_16 t_spilling_16 => some ((-2), t_comes_16, t_depth_16, t_spill_16, t_harmAt_16, t_below_16, t_allHarm_16, t_spilling_16)) (fun _ _ _ _ _ _ _ => ⟨_, _, _, _, _, _, _, rfl⟩) 0 ((b + 1) * W r) 2000 co de sp ha be al si (by omega) (by omega)
    refine ⟨c2, c3, c4, c5, c6, c7, c8, e.trans ?_⟩
    have sk := lf_skip (P := fun y => decide (b < dp R W y r)) 999 0 1 (fun z h1 h2 => decide_eq_false (by have := dp_small R W (y := z) (r := r) (b := b) hWr.1 (by omega); omega))
    rw [show 999 + 0 = 999 from rfl] at sk
    rw [sk]; rfl
/-- the reference's spillsAt -/
theorem L_spillsAt {R : Nat → Nat → Nat} (hR : rvOK R) {L U f sd : Nat} {V : Nat → Nat} (hL : L < 2 ^ R 0 1) {kind wide bank at_ pulls v : Nat → Int32} (T : tR R kind wide bank at_ pulls) (hv : vR (R 0 1) v L U f sd V) {r : Nat} (hr : r < R 0 0) {K : Int32 → Int32 → (Nat → Int32) → (Nat → Int32) → (Nat → Int32) → (Nat → Int32) → Int32 → Option (Int32 × Int32 × Int32 × Int32 × (Nat → Int32) × (Nat → Int32) × (Nat → Int32) × (Nat → Int32) × Int32)} (hK : ∀ tr wh wi wa de sp be, mA (K tr wh wi wa de sp be) (-2) 0) :
    ∀ (d y fuel : Nat) (tr wh : Int32) (wi wa de sp : Nat → Int32) (be : Int32), y + d = 1000 → d < fuel → mA (f_X12_spillsAt_L21 K (nI r) 0 (nI (R 0 0)) (nI (R 0 1)) kind wide bank at_ pulls v fuel (nI y) tr wh wi wa de sp be) (lf (fun y => decide (0 < sl R (wN R L) y r)) d y) 0 := by
  have hn := hR.1.2.1
  intro d
  induction d with
  | zero =>
    intro y fuel tr wh wi wa de sp be hy hf
    obtain ⟨m, rfl⟩ := Nat.exists_eq_succ_of_ne_zero (show fuel ≠ 0 by omega)
    rw [f_X12_spillsAt_L21, if_pos (show (999 : Int32) < nI y from nI_lt (a := 999) (by omega) (by omega))]
    exact hK _ _ _ _ _ _ _
  | succ d ih =>
    intro y fuel tr wh wi wa de sp be hy hf
    obtain ⟨m, rfl⟩ := Nat.exists_eq_succ_of_ne_zero (show fuel ≠ 0 by omega)
    obtain ⟨c1, c2, c3, c4, c5, e, q⟩ := m_runs hR (pow_k hR.1.2.2.1 hL) (show y < 2 ^ 16 by omega) T.kind T.wide T.bank T.at_ T.pulls wi wa de sp be
    have hs := sl_le R (wN R L) y r
    rw [f_X12_spillsAt_L21, if_neg (show ¬ (999 : Int32) < nI y from nI_nlt (a := 999) (by omega) (by omega)), vR_laced hR.1.2.2.1 hv hL, bind_some', e, bind_some']
    simp only [inb_nI (show r < 6 by omega) (by decide), gd_true, nI_clamp (show r < 2 ^ 31 by omega), q.2.2.2.1 r hr, nI_1, lf]
    by_cases h : 0 < sl R (wN R L) y r
    · rw [if_neg (show ¬ nI (sl R (wN R L) y r) ≤ 0 from nI_ge (a := 0) h (by omega)), if_pos (decide_eq_true h)]
      exact ⟨_, _, _, _, _, rfl⟩
    · rw [if_pos (show nI (sl R (wN R L) y r) ≤ 0 from nI_le (b := 0) (by omega) (by decide)), if_neg (by simp; omega)]
      exact ih (y + 1) m _ _ _ _ _ _ _ (by omega) (by omega)
theorem sl_pos (R : Nat → Nat → Nat) (W : Nat → Nat) {y r : Nat} (hW : 1 ≤ W r) : decide (0 < sl R W y r) = decide (R 3 r < dp R W y r) := by
  apply decide_eq_decide.mpr
  show 0 < (wt R W y r / W r - R 3 r) * W r ↔ R 3 r < wt R W y r / W r
  constructor
  · intro h
    have := Nat.pos_of_mul_pos_right h
    omega
  · intro h
    exact Nat.mul_pos (by omega) (by omega)
theorem j_spillsAt {R : Nat → Nat → Nat} (hR : rvOK R) {L U f sd : Nat} {V : Nat → Nat} (hL : L < 2 ^ R 0 1) {kind wide bank at_ pulls kind2 wide2 bank2 at2 pulls2 v : Nat → Int32} (T : tR R kind wide bank at_ pulls) (T2 : tR R kind2 wide2 bank2 at2 pulls2) (hv : vR (R 0 1) v L U f sd V) (p1 : Int32) (w co de sp ha : Nat → Int32) (be al si tr : Int32) (th tr2 wh : Int32) (wi wa de2 sp2 : Nat → Int32) (be2 : Int32) :
    ∃ ans t, cA (f_X10_spillsAt p1 (nI L) w co de sp ha be al si (nI (R 0 0)) (nI (R 0 1)) kind wide bank at_ pulls tr) ans t ∧ mA (f_X12_spillsAt p1 th tr2 wh (nI (R 0 0)) (nI (R 0 1)) kind2 wide2 bank2 at2 pulls2 v wi wa de2 sp2 be2) ans t := by
  have hn := hR.1.2.1
  unfold f_X10_spillsAt f_X12_spillsAt
  rcases isReach_or (show R 0 0 < 2 ^ 31 by omega) p1 with ⟨a1, a2⟩ | ⟨r, hr, rfl, a1, a2⟩
  · rw [a1, a2]
    exact ⟨-1, 1, ⟨_, _, _, _, _, _, _, _, rfl⟩, ⟨_, _, _, _, _, rfl⟩⟩
  · rw [a1, a2, bind_some', bind_some', if_neg (show ¬ (1 : Int32) = 0 by decide), if_neg (show ¬ (1 : Int32) = 0 by decide)]
    obtain ⟨w1, e1, q1⟩ := s_narrow hR (pow_k hR.1.2.2.1 hL) (w := w) T.wide T.at_ T.pulls
    obtain ⟨c2, c3, c4, c5, c6, c7, c8, e⟩ := s_least hR (fun r hr => wN_le hR L hr) q1 T.kind T.bank hr (hR.2.1 r hr).2.2.2.2.1 co de sp ha be al si
    refine ⟨lf (fun y => decide (0 < sl R (wN R L) y r)) 999 1, 0, ?_, L_spillsAt hR hL T2 hv hr (fun _ _ _ _ _ _ _ => ⟨_, _, _, _, _, rfl⟩) 999 1 2000 _ _ _ _ _ _ _ (by omega) (by omega)⟩
    rw [e1, bind_some', inb_nI (show r < 6 by omega) (by decide), gd_true, nI_clamp (show r < 2 ^ 31 by omega), T.bank r hr, e, lf_congr (fun y => sl_pos R (wN R L) (wN_le hR L hr).1)]
    exact ⟨_, _, _, _, _, _, _, _, rfl⟩
/-- leastFlow for a depth below 0 -/
theorem addn (p c : Int32) : p - (p + 1 + c) + 1 = 0 - c := by
  apply Int32.toBitVec_inj.mp; simp only [Int32.toBitVec_sub, Int32.toBitVec_add, show (0 : Int32).toBitVec = 0#32 from rfl, show (1 : Int32).toBitVec = 1#32 from rfl]; bv_omega
theorem s_leastM {R : Nat → Nat → Nat} (hR : rvOK R) {W : Nat → Nat} (hW : ∀ r, r < R 0 0 → 1 ≤ W r ∧ W r ≤ 40) {w kind bank : Nat → Int32} (hw : rw_ (R 0 0) w W) (hk : rw_ (R 0 0) kind (R 1)) (hb : rw_ (R 0 0) bank (R 3)) {r : Nat} (hr : r < R 0 0) {b c : Nat} (hb99 : b ≤ 99) (hc : c < 2 ^ 20) (hbc : b < c) (co de sp ha : Nat → Int32) (be al si : Int32) :
    ∃ co' de' sp' ha' be' al' si', f_X8_leastFlow (nI r) (nI b - nI c) w co de sp ha be al si (nI (R 0 0)) kind bank = some (1, co', de', sp', ha', be', al', si') := by
  have hn := hR.1.2.1
  have hWr := hW r hr
  have hmul : (c - b - 1) * W r ≤ 2 ^ 20 * 40 := Nat.mul_le_mul (by omega) hWr.2
  have e1 : nI b - nI c + 1 = 0 - nI (c - b - 1) := by
    rw [show c = b + 1 + (c - b - 1) by omega, ← nI_add, ← nI_add, show b + 1 + (c - b - 1) - b - 1 = c - b - 1 by omega]
    exact addn _ _
  have e2 : (nI b - nI c + 1) * nI (W r) = nI 0 - nI ((c - b - 1) * W r) := by
    rw [e1, Int32.sub_mul, Int32.zero_mul, pk_mul]; rfl
  have e3 : ¬ (1 : Int32) < (nI b - nI c + 1) * nI (W r) := by
    rw [e2, i32_lt, pk_sub_toInt (by omega) (by omega), show (1 : Int32).toInt = 1 from rfl]; omega
  unfold f_X8_leastFlow
  simp only [inb_nI (show r < 6 by omega) (by decide), gd_true, nm_eq, nI_clamp (show r < 2 ^ 31 by omega), hw r hr]
  rw [if_neg e3]
  obtain ⟨c2, c3, c4, c5, c6, c7, c8, e⟩ := L_least hR hW hw hk hb hr (nI b - nI c) (K := fun t_comes_16 t_depth_16 t_spill_16 t_harmAt_16 t_below_16 t_allHarm_16 t_spilling_16 => some ((-2), t_comes_16, t_depth_16, t_spill_16, t_harmAt_16, t_below_16, t_allHarm_16, t_spilling_16)) (fun _ _ _ _ _ _ _ => ⟨_, _, _, _, _, _, _, rfl⟩) 999 1 2000 co de sp ha be al si (by omega) (by omega)
  refine ⟨c2, c3, c4, c5, c6, c7, c8, e.trans ?_⟩
  have hd := dp_le R W 1 r
  have hq : ¬ nI (dp R W 1 r) ≤ nI b - nI c := by
    rw [i32_le, nI_toInt (by omega), pk_sub_toInt (by omega) (by omega)]; omega
  rw [lf, if_pos (by simp [hq])]; rfl
/-- the reference's burstsAt -/
theorem L_burstsAt {R : Nat → Nat → Nat} (hR : rvOK R) {L U f sd : Nat} {V : Nat → Nat} (hL : L < 2 ^ R 0 1) {kind wide bank at_ pulls bears v : Nat → Int32} (T : tR R kind wide bank at_ pulls) (hv : vR (R 0 1) v L U f sd V) (hb : rw_ (R 0 1) bears (R 6)) (hV : ∀ j, j < R 0 1 → V j < 2 ^ 20) {r : Nat} (hr : r < R 0 1) {K : Int32 → Int32 → (Nat → Int32) → (Nat → Int32) → (Nat → Int32) → (Nat → Int32) → Int32 → Option (Int32 × Int32 × Int32 × Int32 × (Nat → Int32) × (Nat → Int32) × (Nat → Int32) × (Nat → Int32) × Int32)} (hK : ∀ tr wh wi wa de sp be, mA (K tr wh wi wa de sp be) (-2) 0) :
    ∀ (d y fuel : Nat) (tr wh : Int32) (wi wa de sp : Nat → Int32) (be : Int32), y + d = 1000 → d < fuel → mA (f_X12_burstsAt_L39 K (nI r) 0 (nI (R 0 0)) (nI (R 0 1)) kind wide bank at_ pulls bears v fuel (nI y) tr wh wi wa de sp be) (lf (fun y => buB R L (dp R (wN R L) y) V r) d y) 0 := by
  have hk := hR.1.2.2.1
  have hL31 := pow_k hk hL
  intro d
  induction d with
  | zero =>
    intro y fuel tr wh wi wa de sp be hy hf
    obtain ⟨m, rfl⟩ := Nat.exists_eq_succ_of_ne_zero (show fuel ≠ 0 by omega)
    rw [f_X12_burstsAt_L39, if_pos (show (999 : Int32) < nI y from nI_lt (a := 999) (by omega) (by omega))]
    exact hK _ _ _ _ _ _ _
  | succ d ih =>
    intro y fuel tr wh wi wa de sp be hy hf
    obtain ⟨m, rfl⟩ := Nat.exists_eq_succ_of_ne_zero (show fuel ≠ 0 by omega)
    obtain ⟨c1, c2, c3, c4, c5, e, q⟩ := m_runs hR hL31 (show y < 2 ^ 16 by omega) T.kind T.wide T.bank T.at_ T.pulls wi wa de sp be
    have hD : ∀ r, r < R 0 0 → dp R (wN R L) y r < 2 ^ 20 := fun r _ => Nat.lt_of_le_of_lt (dp_le R (wN R L) y r) (by omega)
    rw [f_X12_burstsAt_L39, if_neg (show ¬ (999 : Int32) < nI y from nI_nlt (a := 999) (by omega) (by omega)), vR_laced hk hv hL, bind_some', e, bind_some', bind_some']
    dsimp only
    rw [m_bursting hR hL31 hD hV q.2.2.1 T.at_ hb hv.2.1, bind_some', bit_nI (pow_k hk (bs_lt _ _)) (show r < 31 by omega), bind_some', bs_test, decide_eq_true hr, Bool.true_and, nI_1]
    simp only [lf]
    by_cases h : buB R L (dp R (wN R L) y) V r = true
    · rw [if_pos h, if_pos h, if_neg (show ¬ (1 : Int32) = 0 by decide)]
      exact ⟨_, _, _, _, _, rfl⟩
    · rw [if_neg h, if_neg h, if_pos rfl]
      exact ih (y + 1) m _ _ _ _ _ _ _ (by omega) (by omega)
theorem j_burstsAt {R : Nat → Nat → Nat} (hR : rvOK R) {L U f sd : Nat} {V : Nat → Nat} (hL : L < 2 ^ R 0 1) {kind wide bank at_ pulls kind2 wide2 bank2 at2 pulls2 v : Nat → Int32} (T : tR R kind wide bank at_ pulls) (T2 : tR R kind2 wide2 bank2 at2 pulls2) (hv : vR (R 0 1) v L U f sd V) {bears bears2 wear : Nat → Int32} (hb : rw_ (R 0 1) bears (R 6)) (hb2 : rw_ (R 0 1) bears2 (R 6)) (hwr : rw_ (R 0 1) wear V) (hV : ∀ j, j < R 0 1 → V j < 2 ^ 20) (p1 : Int32) (w co de sp ha : Nat → Int32) (be al si tr : Int32) (th tr2 wh : Int32) (wi wa de2 sp2 : Nat → Int32) (be2 : Int32) :
    ∃ ans t, cA (f_X10_burstsAt p1 (nI L) wear w co de sp ha be al si (nI (R 0 0)) (nI (R 0 1)) kind wide bank at_ pulls bears tr) ans t ∧ mA (f_X12_burstsAt p1 th tr2 wh (nI (R 0 0)) (nI (R 0 1)) kind2 wide2 bank2 at2 pulls2 bears2 v wi wa de2 sp2 be2) ans t := by
  have hn := hR.1.2.1
  have hk := hR.1.2.2.1
  have hL31 := pow_k hk hL
  unfold f_X10_burstsAt f_X12_burstsAt
  rcases isRope_or (show R 0 1 < 2 ^ 31 by omega) p1 with ⟨a1, a2⟩ | ⟨r, hr, rfl, a1, a2⟩
  · rw [a1, a2]
    exact ⟨-1, 1, ⟨_, _, _, _, _, _, _, _, rfl⟩, ⟨_, _, _, _, _, rfl⟩⟩
  · rw [a1, a2, bind_some', bind_some', if_neg (show ¬ (1 : Int32) = 0 by decide), if_neg (show ¬ (1 : Int32) = 0 by decide), isIn_nI hL31 (show r < 31 by omega), bind_some', show (0 : Int32) + nI r = nI r from (nI_add 0 r).trans (by rw [Nat.zero_add]), inb_nI (show r < 16 by omega) (by decide), gd_true, nI_clamp (show r < 2 ^ 31 by omega), hv.1 r hr]
    by_cases hl : L.testBit r = true
    · rw [if_pos hl, if_pos hl, if_neg (show ¬ (1 : Int32) = 0 by decide), if_pos (show nI 1 = 1 from rfl)]
      obtain ⟨g4, -, -, -, g6⟩ := hR.2.2.1 r hr
      have hVr := hV r hr
      obtain ⟨w1, e1, q1⟩ := s_narrow hR hL31 (w := w) T.wide T.at_ T.pulls
      refine ⟨lf (fun y => buB R L (dp R (wN R L) y) V r) 999 1, 0, ?_, L_burstsAt hR hL T2 hv hb2 hV hr (fun _ _ _ _ _ _ _ => ⟨_, _, _, _, _, rfl⟩) 999 1 2000 _ _ _ _ _ _ _ (by omega) (by omega)⟩
      rw [e1, bind_some']
      simp only [inb_nI (show r < 7 by omega) (by decide), gd_true, T.at_ r hr, hb r hr, hwr r hr]
      by_cases h : V r ≤ R 6 r
      · obtain ⟨c2, c3, c4, c5, c6, c7, c8, e⟩ := s_least hR (fun r hr => wN_le hR L hr) q1 T.kind T.bank g4 (b := R 6 r - V r) (by omega) co de sp ha be al si
        rw [nI_sub h, e, lf_congr (P := fun y => decide (R 6 r - V r < dp R (wN R L) y (R 4 r))) (Q := fun y => buB R L (dp R (wN R L) y) V r) (fun y => by show decide (R 6 r - V r < dp R (wN R L) y (R 4 r)) = (L.testBit r && decide (R 6 r < V r + dp R (wN R L) y (R 4 r))); rw [hl, Bool.true_and]; apply decide_eq_decide.mpr; omega)]
        exact ⟨_, _, _, _, _, _, _, _, rfl⟩
      · obtain ⟨c2, c3, c4, c5, c6, c7, c8, e⟩ := s_leastM hR (fun r hr => wN_le hR L hr) q1 T.kind T.bank g4 (b := R 6 r) (c := V r) g6 hVr (by omega) co de sp ha be al si
        rw [e, lf, if_pos (by unfold buB; rw [hl, Bool.true_and]; exact decide_eq_true (by omega))]
        exact ⟨_, _, _, _, _, _, _, _, rfl⟩
    · rw [if_neg hl, if_neg hl, if_pos rfl, if_neg]
      · exact ⟨-1, 5, ⟨_, _, _, _, _, _, _, _, rfl⟩, ⟨_, _, _, _, _, rfl⟩⟩
      · by_cases u : U.testBit r = true
        · rw [if_pos u]; decide
        · rw [if_neg u]; decide
