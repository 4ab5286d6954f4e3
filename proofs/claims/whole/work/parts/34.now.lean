/-! the state now, on both sides, and what is asked of it -/
/-- the reference's row of 16: rope states, wear, flow, seed -/
def vR (k : Nat) (v : Nat → Int32) (L U f sd : Nat) (V : Nat → Nat) : Prop :=
  (∀ j, j < k → v j = nI (if L.testBit j = true then 1 else if U.testBit j = true then 2 else 0)) ∧ (∀ j, j < k → v (7 + j) = nI (V j)) ∧ v 14 = nI f ∧ v 15 = nI sd
theorem vR_laced {k : Nat} (hk : k ≤ 7) {v : Nat → Int32} {L U f sd : Nat} {V : Nat → Nat} (h : vR k v L U f sd V) (hL : L < 2 ^ k) : f_X12_lacedNow (nI k) v = some (nI L) := by
  refine m_lacedNow hk (A := fun j => if L.testBit j = true then 1 else if U.testBit j = true then 2 else 0) (fun j hj => h.1 j hj) (fun j _ => ?_) hL (fun j _ => ?_)
  · show (if L.testBit j = true then 1 else if U.testBit j = true then 2 else 0) < 2 ^ 31
    split
    · decide
    · split <;> decide
  · show (if L.testBit j = true then 1 else if U.testBit j = true then 2 else 0) = 1 ↔ _
    split
    · simp [*]
    · split <;> simp [*]
theorem pow_k {k L : Nat} (hk : k ≤ 7) (hL : L < 2 ^ k) : L < 2 ^ 31 := Nat.lt_of_lt_of_le hL (Nat.pow_le_pow_right (by decide) (by omega))
/-- the river's rows, in a heap -/
def tR (R : Nat → Nat → Nat) (kind wide bank at_ pulls : Nat → Int32) : Prop := rw_ (R 0 0) kind (R 1) ∧ rw_ (R 0 0) wide (R 2) ∧ rw_ (R 0 0) bank (R 3) ∧ rw_ (R 0 1) at_ (R 4) ∧ rw_ (R 0 1) pulls (R 5)
theorem tR.kind {R : Nat → Nat → Nat} {kind wide bank at_ pulls : Nat → Int32} (h : tR R kind wide bank at_ pulls) : rw_ (R 0 0) kind (R 1) := h.1
theorem tR.wide {R : Nat → Nat → Nat} {kind wide bank at_ pulls : Nat → Int32} (h : tR R kind wide bank at_ pulls) : rw_ (R 0 0) wide (R 2) := h.2.1
theorem tR.bank {R : Nat → Nat → Nat} {kind wide bank at_ pulls : Nat → Int32} (h : tR R kind wide bank at_ pulls) : rw_ (R 0 0) bank (R 3) := h.2.2.1
theorem tR.at_ {R : Nat → Nat → Nat} {kind wide bank at_ pulls : Nat → Int32} (h : tR R kind wide bank at_ pulls) : rw_ (R 0 1) at_ (R 4) := h.2.2.2.1
theorem tR.pulls {R : Nat → Nat → Nat} {kind wide bank at_ pulls : Nat → Int32} (h : tR R kind wide bank at_ pulls) : rw_ (R 0 1) pulls (R 5) := h.2.2.2.2
theorem s_pourBy {R : Nat → Nat → Nat} (hR : rvOK R) {L f : Nat} (hL : L < 2 ^ R 0 1) (hf : f < 2 ^ 16) {kind wide bank at_ pulls : Nat → Int32} (T : tR R kind wide bank at_ pulls) (w co de sp ha : Nat → Int32) (be al si : Int32) :
    ∃ w' co' de' sp' ha' be' al' si', f_X10_pourBy (nI f) (nI L) w co de sp ha be al si (nI (R 0 0)) (nI (R 0 1)) kind wide bank at_ pulls = some (w', co', de', sp', ha', be', al', si') ∧ rw_ (R 0 0) w' (wN R L) ∧ pourI R (wN R L) f (R 0 0) co' de' sp' ha' be' al' si' := by
  obtain ⟨c1, c2, c3, c4, c5, c6, c7, c8, e, q1, q2⟩ := s_run hR (pow_k hR.1.2.2.1 hL) hf T.kind T.wide T.bank T.at_ T.pulls w co de sp ha be al si
  refine ⟨c1, c2, c3, c4, c5, c6, c7, c8, ?_, q1, q2⟩
  unfold f_X10_pourBy
  rw [e]; rfl
theorem s_pourNow {R : Nat → Nat → Nat} (hR : rvOK R) {L f : Nat} (hL : L < 2 ^ R 0 1) (hf : f < 2 ^ 16) {kind wide bank at_ pulls : Nat → Int32} (T : tR R kind wide bank at_ pulls) (w co de sp ha : Nat → Int32) (be al si : Int32) :
    ∃ w' co' de' sp' ha' be' al' si', f_X10_pourNow (nI L) (nI f) w co de sp ha be al si (nI (R 0 0)) (nI (R 0 1)) kind wide bank at_ pulls = some (w', co', de', sp', ha', be', al', si') ∧ rw_ (R 0 0) w' (wN R L) ∧ pourI R (wN R L) f (R 0 0) co' de' sp' ha' be' al' si' := by
  obtain ⟨c1, c2, c3, c4, c5, c6, c7, c8, e, q1, q2⟩ := s_pourBy hR hL hf T w co de sp ha be al si
  refine ⟨c1, c2, c3, c4, c5, c6, c7, c8, ?_, q1, q2⟩
  unfold f_X10_pourNow
  rw [e]; rfl
theorem s_noRiver {R : Nat → Nat → Nat} (hR : rvOK R) : f_X10_noRiver (nI (R 0 0)) = some 0 := by
  have h1 := hR.1.1
  have h6 := hR.1.2.1
  unfold f_X10_noRiver
  rw [if_neg (by rw [show (0 : Int32) = nI 0 from rfl, nI_eq (by omega) (by decide)]; omega)]
theorem m_runsNow {R : Nat → Nat → Nat} (hR : rvOK R) {L U f sd : Nat} {V : Nat → Nat} (hL : L < 2 ^ R 0 1) (hf : f < 2 ^ 16) {kind wide bank at_ pulls v : Nat → Int32} (T : tR R kind wide bank at_ pulls) (hv : vR (R 0 1) v L U f sd V) (wi wa de sp : Nat → Int32) (be : Int32) :
    ∃ wi' wa' de' sp' be', f_X12_runsNow (nI (R 0 0)) (nI (R 0 1)) kind wide bank at_ pulls v wi wa de sp be = some (wi', wa', de', sp', be') ∧ runI R (wN R L) f (R 0 0) wi' wa' de' sp' be' := by
  obtain ⟨c1, c2, c3, c4, c5, e, q⟩ := m_runs hR (pow_k hR.1.2.2.1 hL) hf T.kind T.wide T.bank T.at_ T.pulls wi wa de sp be
  refine ⟨c1, c2, c3, c4, c5, ?_, q⟩
  unfold f_X12_runsNow
  rw [vR_laced hR.1.2.2.1 hv hL, bind_some', show inb 14 16 = true by decide, gd_true, show v (14 : Int32).toNatClampNeg = nI f from hv.2.2.1, e]; rfl
theorem s_below {R : Nat → Nat → Nat} (hR : rvOK R) {L f : Nat} (hL : L < 2 ^ R 0 1) (hf : f < 2 ^ 16) {kind wide bank at_ pulls : Nat → Int32} (T : tR R kind wide bank at_ pulls) (w co de sp ha : Nat → Int32) (be al si tr : Int32) :
    ∃ w' co' de' sp' ha' be' al' si', f_X10_below (nI L) (nI f) w co de sp ha be al si (nI (R 0 0)) (nI (R 0 1)) kind wide bank at_ pulls tr = some (nI (wt R (wN R L) f (R 0 0)), w', co', de', sp', ha', be', al', si', 0) := by
  have h5 : R 0 5 < 2 ^ 31 := Nat.lt_of_le_of_lt hR.1.2.2.2.2.2.2.2.2 (by decide)
  obtain ⟨c1, c2, c3, c4, c5, c6, c7, c8, e, hw, q⟩ := s_pourNow hR hL hf T w co de sp ha be al si
  obtain ⟨hco, hde, hsp, hha, hbe, hal, hsi⟩ := q
  refine ⟨c1, c2, c3, c4, c5, c6, c7, c8, ?_⟩
  unfold f_X10_below
  rw [s_noRiver hR, bind_some', if_pos rfl, e, bind_some']
  dsimp only
  rw [hbe]; rfl
theorem m_below {R : Nat → Nat → Nat} (hR : rvOK R) {L U f sd : Nat} {V : Nat → Nat} (hL : L < 2 ^ R 0 1) (hf : f < 2 ^ 16) {kind wide bank at_ pulls v : Nat → Int32} (T : tR R kind wide bank at_ pulls) (hv : vR (R 0 1) v L U f sd V) (th tr wh : Int32) (wi wa de sp : Nat → Int32) (be : Int32) :
    ∃ wi' wa' de' sp' be', f_X12_below th tr wh (nI (R 0 0)) (nI (R 0 1)) kind wide bank at_ pulls v wi wa de sp be = some (nI (wt R (wN R L) f (R 0 0)), 0, 0, -1, wi', wa', de', sp', be') := by
  have h5 : R 0 5 < 2 ^ 31 := Nat.lt_of_le_of_lt hR.1.2.2.2.2.2.2.2.2 (by decide)
  obtain ⟨c1, c2, c3, c4, c5, e, hwi, hwa, hde, hsp, hbe⟩ := m_runsNow hR hL hf T hv wi wa de sp be
  refine ⟨c1, c2, c3, c4, c5, ?_⟩
  unfold f_X12_below
  rw [e, bind_some']
  dsimp only
  rw [hbe]; rfl
theorem s_harm {R : Nat → Nat → Nat} (hR : rvOK R) {L f : Nat} (hL : L < 2 ^ R 0 1) (hf : f < 2 ^ 16) {kind wide bank at_ pulls : Nat → Int32} (T : tR R kind wide bank at_ pulls) (w co de sp ha : Nat → Int32) (be al si tr : Int32) :
    ∃ w' co' de' sp' ha' be' al' si', f_X10_harm (nI L) (nI f) w co de sp ha be al si (nI (R 0 0)) (nI (R 0 1)) kind wide bank at_ pulls tr = some (nI (harmN R (wN R L) f), w', co', de', sp', ha', be', al', si', 0) := by
  have h5 : R 0 5 < 2 ^ 31 := Nat.lt_of_le_of_lt hR.1.2.2.2.2.2.2.2.2 (by decide)
  obtain ⟨c1, c2, c3, c4, c5, c6, c7, c8, e, hw, q⟩ := s_pourNow hR hL hf T w co de sp ha be al si
  obtain ⟨hco, hde, hsp, hha, hbe, hal, hsi⟩ := q
  refine ⟨c1, c2, c3, c4, c5, c6, c7, c8, ?_⟩
  unfold f_X10_harm
  rw [s_noRiver hR, bind_some', if_pos rfl, e, bind_some']
  dsimp only
  rw [hal]; rfl
theorem m_harm {R : Nat → Nat → Nat} (hR : rvOK R) {L U f sd : Nat} {V : Nat → Nat} (hL : L < 2 ^ R 0 1) (hf : f < 2 ^ 16) {kind wide bank at_ pulls v : Nat → Int32} (T : tR R kind wide bank at_ pulls) (hv : vR (R 0 1) v L U f sd V) (th tr wh : Int32) (wi wa de sp : Nat → Int32) (be : Int32) :
    ∃ wi' wa' de' sp' be', f_X12_harm th tr wh (nI (R 0 0)) (nI (R 0 1)) kind wide bank at_ pulls v wi wa de sp be = some (nI (harmN R (wN R L) f), 0, 0, -1, wi', wa', de', sp', be') := by
  have h5 : R 0 5 < 2 ^ 31 := Nat.lt_of_le_of_lt hR.1.2.2.2.2.2.2.2.2 (by decide)
  obtain ⟨c1, c2, c3, c4, c5, e, hwi, hwa, hde, hsp, hbe⟩ := m_runsNow hR hL hf T hv wi wa de sp be
  refine ⟨c1, c2, c3, c4, c5, ?_⟩
  unfold f_X12_harm
  rw [e, bind_some']
  dsimp only
  rw [m_allHarm hR.1.2.1 T.kind hsp (fun r hr => (hR.2.1 r hr).1) (fun r _ => Nat.lt_of_le_of_lt (sl_le R (wN R L) f r) (by omega))]; rw [harmN, hsum_sm]; rfl
theorem s_spills {R : Nat → Nat → Nat} (hR : rvOK R) {L f : Nat} (hL : L < 2 ^ R 0 1) (hf : f < 2 ^ 16) {kind wide bank at_ pulls : Nat → Int32} (T : tR R kind wide bank at_ pulls) (w co de sp ha : Nat → Int32) (be al si tr : Int32) :
    ∃ w' co' de' sp' ha' be' al' si', f_X10_spills (nI L) (nI f) w co de sp ha be al si (nI (R 0 0)) (nI (R 0 1)) kind wide bank at_ pulls tr = some (nI (bs (fun r => decide (0 < sl R (wN R L) f r)) (R 0 0)), w', co', de', sp', ha', be', al', si', 0) := by
  have h5 : R 0 5 < 2 ^ 31 := Nat.lt_of_le_of_lt hR.1.2.2.2.2.2.2.2.2 (by decide)
  obtain ⟨c1, c2, c3, c4, c5, c6, c7, c8, e, hw, q⟩ := s_pourNow hR hL hf T w co de sp ha be al si
  obtain ⟨hco, hde, hsp, hha, hbe, hal, hsi⟩ := q
  refine ⟨c1, c2, c3, c4, c5, c6, c7, c8, ?_⟩
  unfold f_X10_spills
  rw [s_noRiver hR, bind_some', if_pos rfl, e, bind_some']
  dsimp only
  rw [hsi]; rfl
theorem m_spills {R : Nat → Nat → Nat} (hR : rvOK R) {L U f sd : Nat} {V : Nat → Nat} (hL : L < 2 ^ R 0 1) (hf : f < 2 ^ 16) {kind wide bank at_ pulls v : Nat → Int32} (T : tR R kind wide bank at_ pulls) (hv : vR (R 0 1) v L U f sd V) (th tr wh : Int32) (wi wa de sp : Nat → Int32) (be : Int32) :
    ∃ wi' wa' de' sp' be', f_X12_spills th tr wh (nI (R 0 0)) (nI (R 0 1)) kind wide bank at_ pulls v wi wa de sp be = some (nI (bs (fun r => decide (0 < sl R (wN R L) f r)) (R 0 0)), 0, 0, -1, wi', wa', de', sp', be') := by
  have h5 : R 0 5 < 2 ^ 31 := Nat.lt_of_le_of_lt hR.1.2.2.2.2.2.2.2.2 (by decide)
  obtain ⟨c1, c2, c3, c4, c5, e, hwi, hwa, hde, hsp, hbe⟩ := m_runsNow hR hL hf T hv wi wa de sp be
  refine ⟨c1, c2, c3, c4, c5, ?_⟩
  unfold f_X12_spills
  rw [e, bind_some']
  dsimp only
  rw [m_spilling hR.1.2.1 hsp (fun r _ => Nat.lt_of_le_of_lt (sl_le R (wN R L) f r) (by omega))]; rfl
theorem s_outOfLaw {R : Nat → Nat → Nat} (hR : rvOK R) {L f : Nat} (hL : L < 2 ^ R 0 1) (hf : f < 2 ^ 16) {kind wide bank at_ pulls : Nat → Int32} (T : tR R kind wide bank at_ pulls) (w co de sp ha : Nat → Int32) (be al si tr : Int32) :
    ∃ w' co' de' sp' ha' be' al' si', f_X10_outOfLaw (nI L) (nI f) w co de sp ha be al si (nI (R 0 5)) (nI (R 0 0)) (nI (R 0 1)) kind wide bank at_ pulls tr = some (nI (bs (lawB (R 0 5) (wN R L)) (R 0 0)), w', co', de', sp', ha', be', al', si', 0) := by
  have h5 : R 0 5 < 2 ^ 31 := Nat.lt_of_le_of_lt hR.1.2.2.2.2.2.2.2.2 (by decide)
  obtain ⟨c1, c2, c3, c4, c5, c6, c7, c8, e, hw, q⟩ := s_pourNow hR hL hf T w co de sp ha be al si
  obtain ⟨hco, hde, hsp, hha, hbe, hal, hsi⟩ := q
  refine ⟨c1, c2, c3, c4, c5, c6, c7, c8, ?_⟩
  unfold f_X10_outOfLaw
  rw [s_noRiver hR, bind_some', if_pos rfl, e, bind_some']
  dsimp only
  rw [s_tooWide hR.1.2.1 h5 hw (fun r hr => (wN_le hR L hr).2)]; rfl
theorem m_outOfLaw {R : Nat → Nat → Nat} (hR : rvOK R) {L U f sd : Nat} {V : Nat → Nat} (hL : L < 2 ^ R 0 1) (hf : f < 2 ^ 16) {kind wide bank at_ pulls v : Nat → Int32} (T : tR R kind wide bank at_ pulls) (hv : vR (R 0 1) v L U f sd V) (th tr wh : Int32) (wi wa de sp : Nat → Int32) (be : Int32) :
    ∃ wi' wa' de' sp' be', f_X12_outOfLaw th tr wh (nI (R 0 5)) (nI (R 0 0)) (nI (R 0 1)) kind wide bank at_ pulls v wi wa de sp be = some (nI (bs (lawB (R 0 5) (wN R L)) (R 0 0)), 0, 0, -1, wi', wa', de', sp', be') := by
  have h5 : R 0 5 < 2 ^ 31 := Nat.lt_of_le_of_lt hR.1.2.2.2.2.2.2.2.2 (by decide)
  obtain ⟨c1, c2, c3, c4, c5, e, hwi, hwa, hde, hsp, hbe⟩ := m_runsNow hR hL hf T hv wi wa de sp be
  refine ⟨c1, c2, c3, c4, c5, ?_⟩
  unfold f_X12_outOfLaw
  rw [e, bind_some']
  dsimp only
  rw [m_unlawful hR.1.2.1 h5 hwi (fun r hr => (wN_le hR L hr).2)]; rfl
theorem s_spilt {R : Nat → Nat → Nat} (hR : rvOK R) {L f : Nat} (hL : L < 2 ^ R 0 1) (hf : f < 2 ^ 16) {kind wide bank at_ pulls : Nat → Int32} (T : tR R kind wide bank at_ pulls) (w co de sp ha : Nat → Int32) (be al si tr : Int32) :
    ∃ w' co' de' sp' ha' be' al' si', f_X10_spilt (nI L) (nI f) w co de sp ha be al si (nI (R 0 0)) (nI (R 0 1)) kind wide bank at_ pulls tr = some (nI (f - wt R (wN R L) f (R 0 0)), w', co', de', sp', ha', be', al', si', 0) := by
  have h5 : R 0 5 < 2 ^ 31 := Nat.lt_of_le_of_lt hR.1.2.2.2.2.2.2.2.2 (by decide)
  obtain ⟨c1, c2, c3, c4, c5, c6, c7, c8, e, hw, q⟩ := s_pourNow hR hL hf T w co de sp ha be al si
  obtain ⟨hco, hde, hsp, hha, hbe, hal, hsi⟩ := q
  refine ⟨c1, c2, c3, c4, c5, c6, c7, c8, ?_⟩
  unfold f_X10_spilt
  rw [s_noRiver hR, bind_some', if_pos rfl, e, bind_some']
  dsimp only
  rw [hbe, nI_sub (wt_le R (wN R L) f (R 0 0))]; rfl
theorem m_spilt {R : Nat → Nat → Nat} (hR : rvOK R) {L U f sd : Nat} {V : Nat → Nat} (hL : L < 2 ^ R 0 1) (hf : f < 2 ^ 16) {kind wide bank at_ pulls v : Nat → Int32} (T : tR R kind wide bank at_ pulls) (hv : vR (R 0 1) v L U f sd V) (th tr wh : Int32) (wi wa de sp : Nat → Int32) (be : Int32) :
    ∃ wi' wa' de' sp' be', f_X12_spilt th tr wh (nI (R 0 0)) (nI (R 0 1)) kind wide bank at_ pulls v wi wa de sp be = some (nI (f - wt R (wN R L) f (R 0 0)), 0, 0, -1, wi', wa', de', sp', be') := by
  have h5 : R 0 5 < 2 ^ 31 := Nat.lt_of_le_of_lt hR.1.2.2.2.2.2.2.2.2 (by decide)
  obtain ⟨c1, c2, c3, c4, c5, e, hwi, hwa, hde, hsp, hbe⟩ := m_runsNow hR hL hf T hv wi wa de sp be
  refine ⟨c1, c2, c3, c4, c5, ?_⟩
  unfold f_X12_spilt
  rw [e, bind_some']
  dsimp only
  rw [show inb 14 16 = true by decide, gd_true, show v (14 : Int32).toNatClampNeg = nI f from hv.2.2.1, hbe, nI_sub (wt_le R (wN R L) f (R 0 0))]; rfl
