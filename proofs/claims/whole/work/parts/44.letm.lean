/-! letThrough, the reference -/
theorem m_letB {R : Nat → Nat → Nat} (hR : rvOK R) {L U f sd : Nat} {V : Nat → Nat} (hL : L < 2 ^ R 0 1) (hf : f < 2 ^ 16) {kind wide bank at_ pulls bw bd v : Nat → Int32} (T : tR R kind wide bank at_ pulls) (hv : vR (R 0 1) v L U f sd V) (hbw : rw_ (R 0 3) bw (R 8)) (hbd : rw_ (R 0 3) bd (R 9)) {b : Nat} (hb : b < R 0 3) {M : Nat} (hM : M < 2 ^ 31) {K : Int32 → Int32 → (Nat → Int32) → (Nat → Int32) → (Nat → Int32) → (Nat → Int32) → Int32 → Option (Int32 × Int32 × Int32 × Int32 × (Nat → Int32) × (Nat → Int32) × (Nat → Int32) × (Nat → Int32) × Int32)} (x3 : Int32) (wi wa de sp : Nat → Int32) (be : Int32) :
    ∃ wi' wa' de' sp' be', f_X12_letThrough_B66 K (nI b) (nI L) (nI (R 0 0)) (nI (R 0 1)) kind wide bank at_ pulls bw bd v x3 (nI M) wi wa de sp be = K (if okB R L f b M = true then nI M else x3) (nI (M + 1)) wi' wa' de' sp' be' := by
  have hn := hR.1.2.1
  have hk := hR.1.2.2.1
  have h128 : 2 ^ R 0 1 ≤ 2 ^ 7 := Nat.pow_le_pow_right (by decide) hk
  have h64 : 2 ^ R 0 0 ≤ 2 ^ 6 := Nat.pow_le_pow_right (by decide) hn
  have h1 : 1 ≤ 2 ^ R 0 0 := Nat.one_le_two_pow
  have hll := ld_le L M
  obtain ⟨c1, c2, c3, c4, c5, e, q⟩ := m_runs hR (L := ld L M) (by omega) hf T.kind T.wide T.bank T.at_ T.pulls wi wa de sp be
  have hD : ∀ r, r < R 0 0 → dp R (wN R (ld L M)) f r < 2 ^ 20 := fun r _ => Nat.lt_of_le_of_lt (dp_le R (wN R (ld L M)) f r) (by omega)
  have hp := m_passing hR (fun r hr => (wN_le hR (ld L M) hr).2) hD q.1 q.2.2.1 hbw hbd hb
  have hlt := bs_lt (paB R (wN R (ld L M)) (dp R (wN R (ld L M)) f) b) (R 0 0)
  have hq : (nI (bs (paB R (wN R (ld L M)) (dp R (wN R (ld L M)) f) b) (R 0 0)) = nI (2 ^ R 0 0 - 1)) ↔ okB R L f b M = true := by
    rw [nI_eq (by omega) (by omega)]; unfold okB; rw [decide_eq_true_iff]
  refine ⟨c1, c2, c3, c4, c5, ?_⟩
  unfold f_X12_letThrough_B66 f_X12_allReaches
  rw [show inb 14 16 = true by decide, gd_true, andn_nI, show v (14 : Int32).toNatClampNeg = nI f from hv.2.2.1, e, bind_some']
  dsimp only
  rw [hp, bind_some', bind_some', s_l' _ (by omega), show nI (2 ^ R 0 0) - 1 = nI (2 ^ R 0 0 - 1) from nI_sub h1, nI_1]
  by_cases ho : okB R L f b M = true
  · rw [if_pos (hq.mpr ho), if_pos ho]
  · rw [if_neg (fun z => ho (hq.mp z)), if_neg ho]
theorem L_let {R : Nat → Nat → Nat} (hR : rvOK R) {L U f sd : Nat} {V : Nat → Nat} (hL : L < 2 ^ R 0 1) (hf : f < 2 ^ 16) {kind wide bank at_ pulls bw bd v : Nat → Int32} (T : tR R kind wide bank at_ pulls) (hv : vR (R 0 1) v L U f sd V) (hbw : rw_ (R 0 3) bw (R 8)) (hbd : rw_ (R 0 3) bd (R 9)) {b : Nat} (hb : b < R 0 3) {K : Int32 → (Nat → Int32) → (Nat → Int32) → (Nat → Int32) → (Nat → Int32) → Int32 → Option (Int32 × Int32 × Int32 × Int32 × (Nat → Int32) × (Nat → Int32) × (Nat → Int32) × (Nat → Int32) × Int32)} (hK : ∀ x wi wa de sp be, mA (K x wi wa de sp be) x 0) :
    ∀ (d M fuel : Nat) (wi wa de sp : Nat → Int32) (be : Int32), M + d = L + 1 → d < fuel → mA (f_X12_letThrough_L30 K (nI b) (nI L) (nI (R 0 0)) (nI (R 0 1)) kind wide bank at_ pulls bw bd v fuel (enc (eb R L f b M)) (nI M) wi wa de sp be) (enc (eb R L f b (L + 1))) 0 := by
  have hk := hR.1.2.2.1
  have h128 : 2 ^ R 0 1 ≤ 2 ^ 7 := Nat.pow_le_pow_right (by decide) hk
  intro d
  induction d with
  | zero =>
    intro M fuel wi wa de sp be hM hf'
    obtain ⟨m, rfl⟩ := Nat.exists_eq_succ_of_ne_zero (show fuel ≠ 0 by omega)
    have e : M = L + 1 := by omega
    rw [f_X12_letThrough_L30, if_pos (nI_lt (by omega) (by omega)), e]
    exact hK _ _ _ _ _ _
  | succ d ih =>
    intro M fuel wi wa de sp be hM hf'
    obtain ⟨m, rfl⟩ := Nat.exists_eq_succ_of_ne_zero (show fuel ≠ 0 by omega)
    have hlm := ld_le M L
    rw [f_X12_letThrough_L30, if_neg (nI_nlt (by omega) (by omega)), andn_nI, nI_1]
    have ih2 := fun wi wa de sp be => ih (M + 1) m wi wa de sp be (by omega) (by omega)
    by_cases hs : ld M L = 0
    · rw [hs, if_pos (show nI 0 = 0 from rfl)]
      obtain ⟨c1, c2, c3, c4, c5, e⟩ := m_letB hR hL hf T hv hbw hbd hb (M := M) (by omega) (K := f_X12_letThrough_L30 K (nI b) (nI L) (nI (R 0 0)) (nI (R 0 1)) kind wide bank at_ pulls bw bd v m) (enc (eb R L f b M)) wi wa de sp be
      rw [e]
      simp only [eb, hs, if_true] at ih2
      cases eq : eb R L f b M with
      | none =>
        rw [eq] at ih2
        rw [if_pos (show enc none = -2 from rfl)]
        by_cases ho : okB R L f b M = true
        · rw [if_pos ho]
          simp only [ho, if_true] at ih2
          exact ih2 _ _ _ _ _
        · rw [if_neg ho]
          simp only [ho] at ih2
          exact ih2 _ _ _ _ _
      | some c =>
        have hc := eb_lt R L f b M c eq
        have p1 := pc_le c
        have p2 := pc_le M
        rw [eq] at ih2
        simp only at ih2
        rw [if_neg (show ¬ enc (some c) = -2 from nI_m2 (by omega)), show enc (some c) = nI c from rfl, bits_nI M (by omega), bits_nI c (by omega), bind_some', bind_some']
        by_cases h2 : pc c ≤ pc M
        · rw [if_neg (nI_nlt h2 (by omega))]
          rw [if_pos h2] at ih2
          exact ih2 _ _ _ _ _
        · rw [if_pos (nI_lt (by omega) (by omega))]
          rw [if_neg h2] at ih2
          by_cases ho : okB R L f b M = true
          · rw [if_pos ho]
            rw [if_pos ho] at ih2
            exact ih2 _ _ _ _ _
          · rw [if_neg ho]
            rw [if_neg ho] at ih2
            exact ih2 _ _ _ _ _
    · rw [if_neg (by rw [show (0 : Int32) = nI 0 from rfl, nI_eq (by omega) (by decide)]; exact hs)]
      simp only [eb, hs, if_false] at ih2
      exact ih2 _ _ _ _ _
theorem j_letThrough {R : Nat → Nat → Nat} (hR : rvOK R) {L U f sd : Nat} {V : Nat → Nat} (hL : L < 2 ^ R 0 1) (hf : f < 2 ^ 16) {kind wide bank at_ pulls kind2 wide2 bank2 at2 pulls2 v : Nat → Int32} (T : tR R kind wide bank at_ pulls) (T2 : tR R kind2 wide2 bank2 at2 pulls2) (hv : vR (R 0 1) v L U f sd V) {bw bd bw2 bd2 : Nat → Int32} (hbw : rw_ (R 0 3) bw (R 8)) (hbd : rw_ (R 0 3) bd (R 9)) (hbw2 : rw_ (R 0 3) bw2 (R 8)) (hbd2 : rw_ (R 0 3) bd2 (R 9)) (p1 : Int32) (w co de sp ha : Nat → Int32) (be al si tr : Int32) (th tr2 wh : Int32) (wi wa de2 sp2 : Nat → Int32) (be2 : Int32) :
    ∃ ans t, cA (f_X10_letThrough p1 (nI L) (nI f) w co de sp ha be al si (nI (R 0 0)) (nI (R 0 1)) (nI (R 0 3)) kind wide bank at_ pulls bw bd tr) ans t ∧ mA (f_X12_letThrough p1 th tr2 wh (nI (R 0 0)) (nI (R 0 1)) (nI (R 0 3)) kind2 wide2 bank2 at2 pulls2 bw2 bd2 v wi wa de2 sp2 be2) ans t := by
  have hn := hR.1.2.1
  have hk := hR.1.2.2.1
  have h5 := hR.1.2.2.2.2.1
  have h128 : 2 ^ R 0 1 ≤ 2 ^ 7 := Nat.pow_le_pow_right (by decide) hk
  have h1 : 1 ≤ 2 ^ R 0 0 := Nat.one_le_two_pow
  unfold f_X10_letThrough f_X12_letThrough
  rcases isBoat_or (show R 0 3 < 2 ^ 31 by omega) p1 with ⟨a1, a2⟩ | ⟨b, hb, rfl, a1, a2⟩
  · rw [a1, a2]
    exact ⟨-1, 1, ⟨_, _, _, _, _, _, _, _, rfl⟩, ⟨_, _, _, _, _, rfl⟩⟩
  · obtain ⟨c1, c2, c3, c4, c5, c6, c7, c8, e⟩ := L_eased hR hL hf T hbw hbd hb (2 ^ R 0 1) 0 2000 w co de sp ha be al si (by omega) (by omega)
    have e' : f_X9_easedFor (nI b) w co de sp ha be al si (nI (R 0 0)) (nI (R 0 1)) kind wide bank at_ pulls bw bd (nI L) (nI f) = some (enc (eb R L f b (2 ^ R 0 1)), c1, c2, c3, c4, c5, c6, c7, c8) := by
      unfold f_X9_easedFor
      rw [nm_eq, s_l' _ (by omega), show nI (2 ^ R 0 0) - 1 = nI (2 ^ R 0 0 - 1) from nI_sub h1]
      exact e
    have hend := eb_end R L f b (2 ^ R 0 1 - (L + 1))
    rw [show L + 1 + (2 ^ R 0 1 - (L + 1)) = 2 ^ R 0 1 by omega] at hend
    rw [a1, a2, bind_some', bind_some', if_neg (show ¬ (1 : Int32) = 0 by decide), if_neg (show ¬ (1 : Int32) = 0 by decide), e', bind_some', vR_laced hk hv hL, bind_some']
    dsimp only
    rw [hend]
    exact ⟨_, _, ⟨_, _, _, _, _, _, _, _, rfl⟩, L_let hR hL hf T2 hv hbw2 hbd2 hb (fun _ _ _ _ _ _ => ⟨_, _, _, _, _, rfl⟩) (L + 1) 0 2000 _ _ _ _ _ (by omega) (by omega)⟩
