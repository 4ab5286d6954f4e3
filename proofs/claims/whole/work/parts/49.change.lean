/-! bestChange, changeHarm -/
def bc (R : Nat → Nat → Nat) (L U f : Nat) : Nat → Nat × Option Nat
  | 0 => (harmN R (wN R L) f, none)
  | k + 1 => if U.testBit k = true then bc R L U f k else if harmN R (wN R (L ^^^ 2 ^ k)) f < (bc R L U f k).1 then (harmN R (wN R (L ^^^ 2 ^ k)) f, some k) else bc R L U f k
def encH (h : Nat) : Option Nat → Int32
  | none => -2
  | some _ => nI h
theorem harmN_lt {R : Nat → Nat → Nat} (hR : rvOK R) (M : Nat) {f : Nat} (hf : f < 2 ^ 16) : harmN R (wN R M) f < 2 ^ 21 := by
  have h := hsum_le R (wN R M) f (R 0 0)
  have hn := hR.1.2.1
  unfold harmN
  have : R 0 0 * (2 * f + 20) ≤ 6 * (2 * f + 20) := Nat.mul_le_mul_right _ hn
  omega
theorem bc_lt {R : Nat → Nat → Nat} (hR : rvOK R) (L U : Nat) {f : Nat} (hf : f < 2 ^ 16) : ∀ k, (bc R L U f k).1 < 2 ^ 21
  | 0 => harmN_lt hR L hf
  | k + 1 => by
    have ih := bc_lt hR L U hf k
    have := harmN_lt hR (L ^^^ 2 ^ k) hf
    simp only [bc]
    split
    · exact ih
    · split
      · exact this
      · exact ih
theorem bc_1 {R : Nat → Nat → Nat} {L U f k : Nat} (hu : U.testBit k = true) : bc R L U f (k + 1) = bc R L U f k := by rw [bc, if_pos hu]
theorem bc_2 {R : Nat → Nat → Nat} {L U f k : Nat} (hu : ¬ U.testBit k = true) (h : harmN R (wN R (L ^^^ 2 ^ k)) f < (bc R L U f k).1) : bc R L U f (k + 1) = (harmN R (wN R (L ^^^ 2 ^ k)) f, some k) := by rw [bc, if_neg hu, if_pos h]
theorem bc_3 {R : Nat → Nat → Nat} {L U f k : Nat} (hu : ¬ U.testBit k = true) (h : ¬ harmN R (wN R (L ^^^ 2 ^ k)) f < (bc R L U f k).1) : bc R L U f (k + 1) = bc R L U f k := by rw [bc, if_neg hu, if_neg h]
theorem xor_k {L k n : Nat} (hL : L < 2 ^ n) (hk : k < n) : L ^^^ 2 ^ k < 2 ^ n := Nat.xor_lt_two_pow hL (Nat.pow_lt_pow_right (by decide) hk)
theorem s_searchChange {R : Nat → Nat → Nat} (hR : rvOK R) {L U f : Nat} (hL : L < 2 ^ R 0 1) (hU : U < 2 ^ R 0 1) (hf : f < 2 ^ 16) {kind wide bank at_ pulls : Nat → Int32} (T : tR R kind wide bank at_ pulls) (w co de sp ha : Nat → Int32) (be al si a0 b0 : Int32) :
    ∃ w' co' de' sp' ha' be' al' si', f_X1_searchChange w co de sp ha be al si a0 b0 (nI (R 0 0)) (nI (R 0 1)) kind wide bank at_ pulls (nI L) (nI U) (nI f) = some (w', co', de', sp', ha', be', al', si', enc (bc R L U f (R 0 1)).2, encH (bc R L U f (R 0 1)).1 (bc R L U f (R 0 1)).2) := by
  have hn := hR.1.2.1
  have hk := hR.1.2.2.1
  have hL31 := pow_k hk hL
  have hU31 := pow_k hk hU
  obtain ⟨c1, c2, c3, c4, c5, c6, c7, c8, e, q1, hco, hde, hsp, hha, hbe, hal, hsi⟩ := s_run hR hL31 hf T.kind T.wide T.bank T.at_ T.pulls w co de sp ha be al si
  unfold f_X1_searchChange
  rw [e, bind_some']
  (try dsimp only)
  refine loopK (σ := Int32 × Int32 × (Nat → Int32) × (Nat → Int32) × (Nat → Int32) × (Nat → Int32) × (Nat → Int32) × Int32 × Int32 × Int32 × Int32 × Int32) (F := fun n x => f_X1_searchChange_L39 (fun x1 x2 x3 x4 x5 x6 x7 x8 x9 x10 => some (x1, x2, x3, x4, x5, x6, x7, x8, x9, x10)) (nI (R 0 0)) (nI (R 0 1)) kind wide bank at_ pulls (nI L) (nI U) (nI f) n x.1 x.2.1 x.2.2.1 x.2.2.2.1 x.2.2.2.2.1 x.2.2.2.2.2.1 x.2.2.2.2.2.2.1 x.2.2.2.2.2.2.2.1 x.2.2.2.2.2.2.2.2.1 x.2.2.2.2.2.2.2.2.2.1 x.2.2.2.2.2.2.2.2.2.2.1 x.2.2.2.2.2.2.2.2.2.2.2) (P := fun k x => x.1 = nI (bc R L U f k).1 ∧ x.2.1 = nI k ∧ x.2.2.2.2.2.2.2.2.2.2.1 = enc (bc R L U f k).2 ∧ x.2.2.2.2.2.2.2.2.2.2.2 = encH (bc R L U f k).1 (bc R L U f k).2) (a := 0) (N := R 0 1) (fuel := 2000) (s := (c7, 0, c1, c2, c3, c4, c5, c6, c7, c8, -2, -2)) ?_ (Nat.zero_le _) ?_ (by omega) ⟨hal, rfl, rfl, rfl⟩
  · rintro m ⟨y1, y2, y3, y4, y5, y6, y7, y8, y9, y10, y11, y12⟩ ⟨z1, z2, z3, z4⟩ e
    dsimp only at z1 z2 z3 z4 e
    subst z1; subst z2; subst z3; subst z4
    rw [e, f_X1_searchChange_L39, if_pos (nI_le (by omega) (by omega))]
    exact ⟨_, _, _, _, _, _, _, _, rfl⟩
  · rintro m k ⟨y1, y2, y3, y4, y5, y6, y7, y8, y9, y10, y11, y12⟩ - hj ⟨z1, z2, z3, z4⟩
    dsimp only at z1 z2 z3 z4 ⊢
    subst z1; subst z2; subst z3; subst z4
    have hb := bc_lt hR L U hf k
    rw [f_X1_searchChange_L39, if_neg (nI_ge (by omega) (by omega)), isIn_nI hU31 (by omega), bind_some', nI_1]
    by_cases hu : U.testBit k = true
    · rw [if_pos hu, if_neg one_ne]
      refine ⟨(_, _, _, _, _, _, _, _, _, _, _, _), ?_, rfl⟩
      (try dsimp only)
      rw [bc_1 hu]
      exact ⟨rfl, rfl, rfl, rfl⟩
    · rw [if_neg hu, if_pos rfl, s_l' _ (by omega), nI_xor]
      have hx := xor_k hL hj
      have hh := harmN_lt hR (L ^^^ 2 ^ k) hf
      obtain ⟨c1, c2, c3, c4, c5, c6, c7, c8, e, q1, hco, hde, hsp, hha, hbe, hal, hsi⟩ := s_run hR (pow_k hk hx) hf T.kind T.wide T.bank T.at_ T.pulls y3 y4 y5 y6 y7 y8 y9 y10
      rw [e, bind_some']
      (try dsimp only)
      have hal' : c7 = nI (harmN R (wN R (L ^^^ 2 ^ k)) f) := hal
      rw [hal']
      by_cases h : harmN R (wN R (L ^^^ 2 ^ k)) f < (bc R L U f k).1
      · rw [if_neg (nI_ge h (by omega))]
        refine ⟨(_, _, _, _, _, _, _, _, _, _, _, _), ?_, rfl⟩
        (try dsimp only)
        rw [bc_2 hu h]
        exact ⟨rfl, rfl, rfl, rfl⟩
      · rw [if_pos (nI_le (by omega) (by omega))]
        refine ⟨(_, _, _, _, _, _, _, _, _, _, _, _), ?_, rfl⟩
        (try dsimp only)
        rw [bc_3 hu h]
        exact ⟨rfl, rfl, rfl, rfl⟩
theorem m_changes {R : Nat → Nat → Nat} (hR : rvOK R) {L U f sd : Nat} {V : Nat → Nat} (hL : L < 2 ^ R 0 1) (hU : U < 2 ^ R 0 1) (hdj : dj L U) (hf : f < 2 ^ 16) {kind wide bank at_ pulls : Nat → Int32} (T : tR R kind wide bank at_ pulls) {v : Nat → Int32} (hv : vR (R 0 1) v L U f sd V) (wi wa de sp : Nat → Int32) (be a0 : Int32) :
    ∃ wi' wa' de' sp' be', f_X12_changes (nI (R 0 0)) (nI (R 0 1)) kind wide bank at_ pulls v wi wa de sp be a0 = some (enc (bc R L U f (R 0 1)).2, wi', wa', de', sp', be', encH (bc R L U f (R 0 1)).1 (bc R L U f (R 0 1)).2) := by
  have hn := hR.1.2.1
  have hk := hR.1.2.2.1
  have hL31 := pow_k hk hL
  have hsl : ∀ M r, r < R 0 0 → sl R (wN R M) f r < 2 ^ 20 := fun M r _ => Nat.lt_of_le_of_lt (sl_le R (wN R M) f r) (by omega)
  have hH : ∀ M, sm (fun r => h1 (R 1 r) (sl R (wN R M) f r)) (R 0 0) = harmN R (wN R M) f := fun M => by rw [harmN, hsum_sm]; rfl
  obtain ⟨c1, c2, c3, c4, c5, e, hwi, hwa, hde, hsp, hbe⟩ := m_runsNow hR hL hf T hv wi wa de sp be
  unfold f_X12_changes
  rw [vR_laced hk hv hL, bind_some', e, bind_some']
  (try dsimp only)
  rw [m_allHarm hn T.kind hsp (fun r hr => (hR.2.1 r hr).1) (hsl L), bind_some', hH L]
  refine loopK (σ := Int32 × Int32 × Int32 × (Nat → Int32) × (Nat → Int32) × (Nat → Int32) × (Nat → Int32) × Int32 × Int32) (F := fun n x => f_X12_changes_L26 (fun x1 x2 x3 x4 x5 x6 x7 => some (x1, x2, x3, x4, x5, x6, x7)) (nI L) (nI (R 0 0)) (nI (R 0 1)) kind wide bank at_ pulls v n x.1 x.2.1 x.2.2.1 x.2.2.2.1 x.2.2.2.2.1 x.2.2.2.2.2.1 x.2.2.2.2.2.2.1 x.2.2.2.2.2.2.2.1 x.2.2.2.2.2.2.2.2) (P := fun k x => x.1 = enc (bc R L U f k).2 ∧ x.2.1 = nI (bc R L U f k).1 ∧ x.2.2.1 = nI k ∧ x.2.2.2.2.2.2.2.2 = encH (bc R L U f k).1 (bc R L U f k).2) (a := 0) (N := R 0 1) (fuel := 2000) (s := (-2, nI (harmN R (wN R L) f), 0, c1, c2, c3, c4, c5, -2)) ?_ (Nat.zero_le _) ?_ (by omega) ⟨rfl, rfl, rfl, rfl⟩
  · rintro m ⟨y1, y2, y3, y4, y5, y6, y7, y8, y9⟩ ⟨z1, z2, z3, z4⟩ e
    dsimp only at z1 z2 z3 z4 e
    subst z1; subst z2; subst z3; subst z4
    rw [e, f_X12_changes_L26, if_pos (nI_le (by omega) (by omega))]
    exact ⟨_, _, _, _, _, rfl⟩
  · rintro m k ⟨y1, y2, y3, y4, y5, y6, y7, y8, y9⟩ - hj ⟨z1, z2, z3, z4⟩
    dsimp only at z1 z2 z3 z4 ⊢
    subst z1; subst z2; subst z3; subst z4
    have hb := bc_lt hR L U hf k
    rw [f_X12_changes_L26, if_neg (nI_ge (by omega) (by omega)), show (0 : Int32) + nI k = nI k from (nI_add 0 k).trans (by rw [Nat.zero_add]), inb_nI (show k < 16 by omega) (by decide), gd_true, nI_clamp (show k < 2 ^ 31 by omega), hv.1 k hj, nI_1]
    by_cases hu : U.testBit k = true
    · have nl : ¬ L.testBit k = true := fun h => hdj k h hu
      rw [if_neg nl, if_pos hu, if_pos (show nI 2 = 2 from rfl)]
      refine ⟨(_, _, _, _, _, _, _, _, _), ?_, rfl⟩
      (try dsimp only)
      rw [bc_1 hu]
      exact ⟨rfl, rfl, rfl, rfl⟩
    · have hne : ¬ nI (if L.testBit k = true then 1 else if U.testBit k = true then 2 else 0) = 2 := by
        rw [if_neg hu]
        split <;> decide
      have hx := xor_k hL hj
      have hh := harmN_lt hR (L ^^^ 2 ^ k) hf
      obtain ⟨c1, c2, c3, c4, c5, e, hwi, hwa, hde, hsp, hbe⟩ := m_runs hR (pow_k hk hx) hf T.kind T.wide T.bank T.at_ T.pulls y4 y5 y6 y7 y8
      rw [if_neg hne, show inb 14 16 = true by decide, gd_true, s_l' _ (by omega), nI_xor, show v (14 : Int32).toNatClampNeg = nI f from hv.2.2.1, e, bind_some']
      (try dsimp only)
      rw [m_allHarm hn T.kind hsp (fun r hr => (hR.2.1 r hr).1) (hsl _), hH]
      simp only [bind_some']
      by_cases h : harmN R (wN R (L ^^^ 2 ^ k)) f < (bc R L U f k).1
      · rw [if_pos (nI_lt h (by omega))]
        refine ⟨(_, _, _, _, _, _, _, _, _), ?_, rfl⟩
        (try dsimp only)
        rw [bc_2 hu h]
        exact ⟨rfl, rfl, rfl, rfl⟩
      · rw [if_neg (nI_nlt (by omega) (by omega))]
        refine ⟨(_, _, _, _, _, _, _, _, _), ?_, rfl⟩
        (try dsimp only)
        rw [bc_3 hu h]
        exact ⟨rfl, rfl, rfl, rfl⟩
theorem j_bestChange {R : Nat → Nat → Nat} (hR : rvOK R) {L U f sd : Nat} {V : Nat → Nat} (hL : L < 2 ^ R 0 1) (hU : U < 2 ^ R 0 1) (hdj : dj L U) (hf : f < 2 ^ 16) {kind wide bank at_ pulls kind2 wide2 bank2 at2 pulls2 v : Nat → Int32} (T : tR R kind wide bank at_ pulls) (T2 : tR R kind2 wide2 bank2 at2 pulls2) (hv : vR (R 0 1) v L U f sd V) (w co de sp ha : Nat → Int32) (be al si a0 b0 tr : Int32) (th tr2 wh : Int32) (wi wa de2 sp2 : Nat → Int32) (be2 a2 : Int32) :
    ∃ o o2, f_X10_bestChange (nI L) (nI U) (nI f) w co de sp ha be al si a0 b0 (nI (R 0 0)) (nI (R 0 1)) kind wide bank at_ pulls tr = some o ∧ f_X12_bestChange th tr2 wh (nI (R 0 0)) (nI (R 0 1)) kind2 wide2 bank2 at2 pulls2 v wi wa de2 sp2 be2 a2 = some o2 ∧ o2.1 = o.1 ∧ o2.2.1 = 0 ∧ o2.2.2.1 = o.2.2.2.2.2.2.2.2.2.2.2 ∧ o2.2.2.2.1 = -1 ∧ o.2.2.2.2.2.2.2.2.2.2.2 = 0 := by
  obtain ⟨k1, k2, k3, k4, k5, k6, k7, k8, e⟩ := s_searchChange hR hL hU hf T w co de sp ha be al si a0 b0
  obtain ⟨m1, m2, m3, m4, m5, em⟩ := m_changes hR hL hU hdj hf T2 hv wi wa de2 sp2 be2 a2
  unfold f_X10_bestChange f_X12_bestChange
  rw [s_noRiver hR, bind_some', if_pos rfl, e, bind_some', em, bind_some']
  exact ⟨_, _, rfl, rfl, rfl, rfl, rfl, rfl, rfl⟩
theorem j_changeHarm {R : Nat → Nat → Nat} (hR : rvOK R) {L U f sd : Nat} {V : Nat → Nat} (hL : L < 2 ^ R 0 1) (hU : U < 2 ^ R 0 1) (hdj : dj L U) (hf : f < 2 ^ 16) {kind wide bank at_ pulls kind2 wide2 bank2 at2 pulls2 v : Nat → Int32} (T : tR R kind wide bank at_ pulls) (T2 : tR R kind2 wide2 bank2 at2 pulls2) (hv : vR (R 0 1) v L U f sd V) (w co de sp ha : Nat → Int32) (be al si a0 b0 tr : Int32) (th tr2 wh : Int32) (wi wa de2 sp2 : Nat → Int32) (be2 a2 : Int32) :
    ∃ o o2, f_X10_changeHarm (nI L) (nI U) (nI f) w co de sp ha be al si a0 b0 (nI (R 0 0)) (nI (R 0 1)) kind wide bank at_ pulls tr = some o ∧ f_X12_changeHarm th tr2 wh (nI (R 0 0)) (nI (R 0 1)) kind2 wide2 bank2 at2 pulls2 v wi wa de2 sp2 be2 a2 = some o2 ∧ o2.1 = o.1 ∧ o2.2.1 = 0 ∧ o2.2.2.1 = o.2.2.2.2.2.2.2.2.2.2.2 ∧ o2.2.2.2.1 = -1 ∧ o.2.2.2.2.2.2.2.2.2.2.2 = 0 := by
  obtain ⟨k1, k2, k3, k4, k5, k6, k7, k8, e⟩ := s_searchChange hR hL hU hf T w co de sp ha be al si a0 b0
  obtain ⟨m1, m2, m3, m4, m5, em⟩ := m_changes hR hL hU hdj hf T2 hv wi wa de2 sp2 be2 a2
  unfold f_X10_changeHarm f_X12_changeHarm
  rw [s_noRiver hR, bind_some', if_pos rfl, e, bind_some', em, bind_some']
  exact ⟨_, _, rfl, rfl, rfl, rfl, rfl, rfl, rfl⟩
