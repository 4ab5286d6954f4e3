/-! hands -/
def pc (m : Nat) : Nat := m % 2 + m / 2 % 2 + m / 4 % 2 + m / 8 % 2 + m / 16 % 2 + m / 32 % 2 + m / 64 % 2
theorem pc_le (m : Nat) : pc m ≤ 7 := by unfold pc; omega
theorem bitCount_nI : ∀ m, m < 128 → f_J6_bitCount_0f7a4 (nI m) = some (nI (pc m)) := by decide +kernel
theorem bits_nI : ∀ m, m < 128 → f_X12_bits (nI m) = some (nI (pc m)) := by decide +kernel
def sN (R : Nat → Nat → Nat) (M : Nat) : Nat := sm (fun i => if M.testBit i = true then R 7 i else 0) (R 0 2)
theorem sN_le {R : Nat → Nat → Nat} (hR : rvOK R) (M : Nat) : sN R M ≤ 99 * R 0 2 := by
  have key : ∀ n, n ≤ R 0 2 → sm (fun i => if M.testBit i = true then R 7 i else 0) n ≤ 99 * n := by
    intro n
    induction n with
    | zero => intro _; exact Nat.le_refl _
    | succ n ih =>
      intro hn
      have h7 := (hR.2.2.2.1 n (by omega)).2
      have := ih (by omega)
      simp only [sm]
      split <;> omega
  exact key _ (Nat.le_refl _)
theorem s_strength {R : Nat → Nat → Nat} (hR : rvOK R) {st : Nat → Int32} (hs : rw_ (R 0 2) st (R 7)) {M : Nat} (hM : M < 2 ^ 31) : f_X9_strength (nI M) (nI (R 0 2)) st = some (nI (sN R M)) := by
  have h6 := hR.1.2.2.2.1
  unfold f_X9_strength
  refine gathers (F := f_X9_strength_L4 (fun x => some x) (nI M) (nI (R 0 2)) st) (k := fun x => some x) ?_ ?_ (by omega)
  · intro m acc; rw [f_X9_strength_L4, if_pos (nI_le (by omega) (by omega))]
  · intro m i hi
    rw [f_X9_strength_L4, if_neg (nI_ge (by omega) (by omega)), isIn_nI hM (by omega), bind_some', nI_1]
    simp only [sm]
    by_cases h : M.testBit i = true
    · rw [if_pos h, if_neg (show ¬ (1 : Int32) = 0 by decide), if_pos h, inb_nI (show i < 6 by omega) (by decide), gd_true, nm_eq, nI_clamp (show i < 2 ^ 31 by omega), hs i hi, nI_add]
    · rw [if_neg h, if_pos rfl, if_neg h]; try rfl
theorem m_strength {R : Nat → Nat → Nat} (hR : rvOK R) {st : Nat → Int32} (hs : rw_ (R 0 2) st (R 7)) {M : Nat} (hM : M < 2 ^ 31) : f_X12_strength (nI M) (nI (R 0 2)) st = some (nI (sN R M)) := by
  have h6 := hR.1.2.2.2.1
  unfold f_X12_strength
  refine gathers (F := f_X12_strength_L4 (fun x => some x) (nI M) (nI (R 0 2)) st) (k := fun x => some x) ?_ ?_ (by omega)
  · intro m acc; rw [f_X12_strength_L4, if_pos (nI_le (by omega) (by omega))]
  · intro m i hi
    rw [f_X12_strength_L4, if_neg (nI_ge (by omega) (by omega)), bit_nI hM (by omega), bind_some', nI_1]
    simp only [sm]
    by_cases h : M.testBit i = true
    · rw [if_pos h, if_neg (show ¬ (1 : Int32) = 0 by decide), if_pos h, inb_nI (show i < 6 by omega) (by decide), gd_true, nm_eq, nI_clamp (show i < 2 ^ 31 by omega), hs i hi, nI_add]
    · rw [if_neg h, if_pos rfl, if_neg h, nm_eq, Int32.add_zero]; try rfl
/-- the fewest that are strong enough, of the sets below M -/
def fh (R : Nat → Nat → Nat) (q : Nat) : Nat → Option Nat
  | 0 => none
  | M + 1 => if sN R M < q then fh R q M else (match fh R q M with
    | none => some M
    | some b => if pc b ≤ pc M then some b else some M)
theorem fh_lt (R : Nat → Nat → Nat) (q : Nat) : ∀ M b, fh R q M = some b → b < M
  | 0, b, h => by cases h
  | M + 1, b, h => by
    have ih := fh_lt R q M
    simp only [fh] at h
    split at h
    · have := ih b h; omega
    · cases e : fh R q M with
      | none => rw [e] at h; simp at h; omega
      | some c =>
        rw [e] at h
        have := ih c e
        simp only at h
        split at h <;> (injection h with h; omega)
theorem s_fewest {R : Nat → Nat → Nat} (hR : rvOK R) {st : Nat → Int32} (hs : rw_ (R 0 2) st (R 7)) {q : Nat} (hq : q < 2 ^ 31) : f_X9_fewestHands (nI q) (nI (R 0 2)) st = some (enc (fh R q (2 ^ R 0 2))) := by
  have h6 := hR.1.2.2.2.1
  have h64 : 2 ^ R 0 2 ≤ 2 ^ 6 := Nat.pow_le_pow_right (by decide) h6
  unfold f_X9_fewestHands
  refine (iter (F := f_X9_fewestHands_L6 _ (nI q) (nI (R 0 2)) st) (k := fun x => some x) (g := fun M => enc (fh R q M)) (a := 0) (N := 2 ^ R 0 2) (Nat.zero_le _) (fun m x => ?_) (fun m M _ hM => ?_) (show 2 ^ R 0 2 < 2000 by omega)).trans ?_
  · rw [f_X9_fewestHands_L6, s_l' _ (by omega), if_pos (nI_le (by omega) (by omega))]
  · have hl := sN_le hR M
    rw [f_X9_fewestHands_L6, s_l' _ (by omega), if_neg (nI_ge (by omega) (by omega)), nI_1, s_strength hR hs (show M < 2 ^ 31 by omega)]
    simp only [fh, bind_some']
    unfold f_X9_isFewer
    cases e : fh R q M with
    | none =>
      rw [if_pos (show enc none = -2 from rfl), bind_some', if_neg (show ¬ (1 : Int32) = 0 by decide)]
      by_cases h : sN R M < q
      · rw [if_pos (nI_lt h (by omega)), if_pos h]
      · rw [if_neg (nI_nlt (by omega) (by omega)), if_neg h]; rfl
    | some b =>
      have hb := fh_lt R q M b e
      have p1 := pc_le b
      have p2 := pc_le M
      rw [if_neg (show ¬ enc (some b) = -2 from nI_m2 (by omega)), show enc (some b) = nI b from rfl, bitCount_nI M (by omega), bitCount_nI b (by omega), bind_some', bind_some']
      dsimp only
      by_cases h : sN R M < q
      · rw [if_pos h]
        by_cases h2 : pc b ≤ pc M
        · rw [if_pos (nI_le h2 (by omega)), bind_some', if_pos rfl]; rfl
        · rw [if_neg (nI_ge (by omega) (by omega)), bind_some', if_neg (show ¬ (1 : Int32) = 0 by decide), if_pos (nI_lt h (by omega))]; rfl
      · rw [if_neg h]
        by_cases h2 : pc b ≤ pc M
        · rw [if_pos (nI_le h2 (by omega)), bind_some', if_pos rfl, if_pos h2]; rfl
        · rw [if_neg (nI_ge (by omega) (by omega)), bind_some', if_neg (show ¬ (1 : Int32) = 0 by decide), if_neg (nI_nlt (by omega) (by omega)), if_neg h2]; rfl
  · rfl
theorem s_haulOf {R : Nat → Nat → Nat} (hR : rvOK R) {D : Nat → Nat} {de at_ pulls : Nat → Int32} (hd : rw_ (R 0 0) de D) (ha : rw_ (R 0 1) at_ (R 4)) (hp : rw_ (R 0 1) pulls (R 5)) {j : Nat} (hj : j < R 0 1) : f_X10_haulOf (nI j) de at_ pulls = some (nI (R 5 j * D (R 4 j))) := by
  have hk := hR.1.2.2.1
  have hn := hR.1.2.1
  obtain ⟨h4, -⟩ := hR.2.2.1 j hj
  unfold f_X10_haulOf
  simp only [inb_nI (show j < 7 by omega) (by decide), gd_true, nI_clamp (show j < 2 ^ 31 by omega), ha j hj, hp j hj, inb_nI (show R 4 j < 6 by omega) (by decide), nI_clamp (show R 4 j < 2 ^ 31 by omega), hd _ h4, pk_mul]
theorem m_needOf {R : Nat → Nat → Nat} (hR : rvOK R) {L U f sd : Nat} {V : Nat → Nat} (hL : L < 2 ^ R 0 1) (hf : f < 2 ^ 16) {kind wide bank at_ pulls v : Nat → Int32} (T : tR R kind wide bank at_ pulls) (hv : vR (R 0 1) v L U f sd V) {j : Nat} (hj : j < R 0 1) (wi wa de sp : Nat → Int32) (be : Int32) :
    ∃ wi' wa' de' sp' be', f_X12_needOf (nI j) (nI (R 0 0)) (nI (R 0 1)) kind wide bank at_ pulls v wi wa de sp be = some (nI (R 5 j * dp R (wN R L) f (R 4 j)), wi', wa', de', sp', be') := by
  have hk := hR.1.2.2.1
  have hn := hR.1.2.1
  obtain ⟨h4, -⟩ := hR.2.2.1 j hj
  obtain ⟨m1, m2, m3, m4, m5, e2, k1, k2, k3, k4, k5⟩ := m_runsNow hR hL hf T hv wi wa de sp be
  refine ⟨m1, m2, m3, m4, m5, ?_⟩
  unfold f_X12_needOf
  rw [e2, bind_some']
  simp only [inb_nI (show j < 7 by omega) (by decide), gd_true, nI_clamp (show j < 2 ^ 31 by omega), T.at_ j hj, T.pulls j hj, inb_nI (show R 4 j < 6 by omega) (by decide), nI_clamp (show R 4 j < 2 ^ 31 by omega), k3 _ h4, pk_mul]
theorem j_needs {R : Nat → Nat → Nat} (hR : rvOK R) {L U f sd : Nat} {V : Nat → Nat} (hL : L < 2 ^ R 0 1) (hf : f < 2 ^ 16) {kind wide bank at_ pulls kind2 wide2 bank2 at2 pulls2 v : Nat → Int32} (T : tR R kind wide bank at_ pulls) (T2 : tR R kind2 wide2 bank2 at2 pulls2) (hv : vR (R 0 1) v L U f sd V) (p1 : Int32) (w co de sp ha : Nat → Int32) (be al si tr : Int32) (th tr2 wh : Int32) (wi wa de2 sp2 : Nat → Int32) (be2 : Int32) :
    ∃ ans t, cA (f_X10_needs p1 (nI L) (nI f) w co de sp ha be al si (nI (R 0 0)) (nI (R 0 1)) kind wide bank at_ pulls tr) ans t ∧ mA (f_X12_needs p1 th tr2 wh (nI (R 0 0)) (nI (R 0 1)) kind2 wide2 bank2 at2 pulls2 v wi wa de2 sp2 be2) ans t := by
  have hk := hR.1.2.2.1
  unfold f_X10_needs f_X12_needs
  rcases isRope_or (show R 0 1 < 2 ^ 31 by omega) p1 with ⟨a1, a2⟩ | ⟨j, hj, rfl, a1, a2⟩
  · rw [a1, a2]
    exact ⟨-1, 1, ⟨_, _, _, _, _, _, _, _, rfl⟩, ⟨_, _, _, _, _, rfl⟩⟩
  · obtain ⟨c1, c2, c3, c4, c5, c6, c7, c8, e, hw, hco, hde, hsp, hha, hbe, hal, hsi⟩ := s_pourNow hR hL hf T w co de sp ha be al si
    obtain ⟨m1, m2, m3, m4, m5, e2⟩ := m_needOf hR hL hf T2 hv hj wi wa de2 sp2 be2
    rw [a1, a2, bind_some', bind_some', if_neg (show ¬ (1 : Int32) = 0 by decide), if_neg (show ¬ (1 : Int32) = 0 by decide), e, bind_some', e2, bind_some']
    dsimp only
    rw [s_haulOf hR hde T.at_ T.pulls hj]
    exact ⟨_, _, ⟨_, _, _, _, _, _, _, _, rfl⟩, ⟨_, _, _, _, _, rfl⟩⟩
theorem j_hauls {R : Nat → Nat → Nat} (hR : rvOK R) {L U f sd : Nat} {V : Nat → Nat} (hL : L < 2 ^ R 0 1) (hf : f < 2 ^ 16) {kind wide bank at_ pulls kind2 wide2 bank2 at2 pulls2 v : Nat → Int32} (T : tR R kind wide bank at_ pulls) (T2 : tR R kind2 wide2 bank2 at2 pulls2) (hv : vR (R 0 1) v L U f sd V) {st st2 : Nat → Int32} (hs : rw_ (R 0 2) st (R 7)) (hs2 : rw_ (R 0 2) st2 (R 7)) (p1 : Int32) (w co de sp ha : Nat → Int32) (be al si tr : Int32) (th tr2 wh : Int32) (wi wa de2 sp2 : Nat → Int32) (be2 : Int32) :
    ∃ ans t, cA (f_X10_hauls p1 (nI L) (nI f) w co de sp ha be al si (nI (R 0 0)) (nI (R 0 1)) (nI (R 0 2)) kind wide bank at_ pulls st tr) ans t ∧ mA (f_X12_hauls p1 th tr2 wh (nI (R 0 0)) (nI (R 0 1)) (nI (R 0 2)) kind2 wide2 bank2 at2 pulls2 st2 v wi wa de2 sp2 be2) ans t := by
  have hk := hR.1.2.2.1
  have h6 := hR.1.2.2.2.1
  have h64 : 2 ^ R 0 2 ≤ 2 ^ 6 := Nat.pow_le_pow_right (by decide) h6
  unfold f_X10_hauls f_X12_hauls
  rcases isRope_or (show R 0 1 < 2 ^ 31 by omega) p1 with ⟨a1, a2⟩ | ⟨j, hj, rfl, a1, a2⟩
  · rw [a1, a2]
    exact ⟨-1, 1, ⟨_, _, _, _, _, _, _, _, rfl⟩, ⟨_, _, _, _, _, rfl⟩⟩
  · obtain ⟨c1, c2, c3, c4, c5, c6, c7, c8, e, hw, hco, hde, hsp, hha, hbe, hal, hsi⟩ := s_pourNow hR hL hf T w co de sp ha be al si
    obtain ⟨m1, m2, m3, m4, m5, e2⟩ := m_needOf hR hL hf T2 hv hj wi wa de2 sp2 be2
    have hq : R 5 j * dp R (wN R L) f (R 4 j) < 2 ^ 31 := by
      have h5 := (hR.2.2.1 j hj).2.2.1
      have := dp_le R (wN R L) f (R 4 j)
      have := Nat.mul_le_mul h5 (show dp R (wN R L) f (R 4 j) ≤ 65536 by omega)
      omega
    rw [a1, a2, bind_some', bind_some', if_neg (show ¬ (1 : Int32) = 0 by decide), if_neg (show ¬ (1 : Int32) = 0 by decide), e, bind_some', e2, bind_some']
    dsimp only
    rw [s_haulOf hR hde T.at_ T.pulls hj, bind_some', s_fewest hR hs hq]
    generalize R 5 j * dp R (wN R L) f (R 4 j) = q at hq
    refine ⟨enc (fh R q (2 ^ R 0 2)), 0, ⟨_, _, _, _, _, _, _, _, rfl⟩, ⟨m1, m2, m3, m4, m5, ?_⟩⟩
    refine (iter (F := f_X12_hauls_L31 _ (nI q) (nI (R 0 2)) st2) (k := fun x => some (x, 0, 0, -1, m1, m2, m3, m4, m5)) (g := fun M => enc (fh R q M)) (a := 0) (N := 2 ^ R 0 2) (Nat.zero_le _) (fun m x => ?_) (fun m M _ hM => ?_) (show 2 ^ R 0 2 < 2000 by omega)).trans ?_
    · rw [f_X12_hauls_L31, s_l' _ (by omega), if_pos (nI_le (by omega) (by omega))]; rfl
    · have hl := sN_le hR M
      rw [f_X12_hauls_L31, s_l' _ (by omega), if_neg (nI_ge (by omega) (by omega)), nI_1, m_strength hR hs2 (show M < 2 ^ 31 by omega), bind_some']
      simp only [fh]
      by_cases h : sN R M < q
      · rw [if_pos (nI_lt h (by omega)), if_pos h]
      · rw [if_neg (nI_nlt (by omega) (by omega)), if_neg h]
        cases e : fh R q M with
        | none => rw [if_pos (show enc none = -2 from rfl)]; rfl
        | some b =>
          have hb := fh_lt R q M b e
          have p1 := pc_le b
          have p2 := pc_le M
          rw [if_neg (show ¬ enc (some b) = -2 from nI_m2 (by omega)), show enc (some b) = nI b from rfl, bits_nI M (by omega), bits_nI b (by omega), bind_some', bind_some']
          dsimp only
          by_cases h2 : pc b ≤ pc M
          · rw [if_pos (nI_le h2 (by omega)), if_pos h2]; rfl
          · rw [if_neg (nI_ge (by omega) (by omega)), if_neg h2]; rfl
    · rfl
