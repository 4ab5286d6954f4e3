/-! the best boat -/
def cnt (R : Nat → Nat → Nat) (W D : Nat → Nat) (b : Nat) : Nat := pc (bs (paB R W D b) (R 0 0))
def bb (R : Nat → Nat → Nat) (W D : Nat → Nat) : Nat → Option Nat
  | 0 => none
  | j + 1 => match bb R W D j with
    | none => some j
    | some b => if cnt R W D j ≤ cnt R W D b then some b else some j
theorem bb_lt (R : Nat → Nat → Nat) (W D : Nat → Nat) : ∀ j b, bb R W D j = some b → b < j
  | 0, b, h => by cases h
  | j + 1, b, h => by
    have ih := bb_lt R W D j
    simp only [bb] at h
    cases e : bb R W D j with
    | none => rw [e] at h; simp at h; omega
    | some c =>
      rw [e] at h
      have := ih c e
      simp only at h
      split at h <;> (injection h with h; omega)
def encC (R : Nat → Nat → Nat) (W D : Nat → Nat) : Option Nat → Int32
  | none => -1
  | some b => nI (cnt R W D b)
theorem nI_le_m1 {a : Nat} (h : a < 2 ^ 31) : ¬ nI a ≤ -1 := by
  rw [i32_le, nI_toInt h]
  have : (-1 : Int32).toInt = -1 := rfl
  omega
theorem s_farthest {R : Nat → Nat → Nat} (hR : rvOK R) {L f : Nat} (hL : L < 2 ^ R 0 1) (hf : f < 2 ^ 16) {kind wide bank at_ pulls bw bd : Nat → Int32} (T : tR R kind wide bank at_ pulls) (hbw : rw_ (R 0 3) bw (R 8)) (hbd : rw_ (R 0 3) bd (R 9)) (w co de sp ha : Nat → Int32) (be al si : Int32) :
    ∃ w' co' de' sp' ha' be' al' si', f_X9_farthest w co de sp ha be al si (nI (R 0 0)) (nI (R 0 1)) (nI (R 0 3)) kind wide bank at_ pulls bw bd (nI L) (nI f) = some (enc (bb R (wN R L) (dp R (wN R L) f) (R 0 3)), w', co', de', sp', ha', be', al', si') := by
  have hn := hR.1.2.1
  have h5 := hR.1.2.2.2.2.1
  have h64 : 2 ^ R 0 0 ≤ 2 ^ 6 := Nat.pow_le_pow_right (by decide) hn
  obtain ⟨c1, c2, c3, c4, c5, c6, c7, c8, e, q1, q2⟩ := s_run hR (pow_k hR.1.2.2.1 hL) hf T.kind T.wide T.bank T.at_ T.pulls w co de sp ha be al si
  refine ⟨c1, c2, c3, c4, c5, c6, c7, c8, ?_⟩
  have hD : ∀ r, r < R 0 0 → dp R (wN R L) f r < 2 ^ 20 := fun r _ => Nat.lt_of_le_of_lt (dp_le R (wN R L) f r) (by omega)
  unfold f_X9_farthest
  rw [e, bind_some']
  dsimp only
  refine (iter (F := fun n (x : Int32 × Int32) i => f_X9_farthest_L25 _ c1 c3 (nI (R 0 0)) (nI (R 0 3)) bw bd n x.1 x.2 i) (k := fun x => some (x.1, c1, c2, c3, c4, c5, c6, c7, c8)) (g := fun j => (enc (bb R (wN R L) (dp R (wN R L) f) j), encC R (wN R L) (dp R (wN R L) f) (bb R (wN R L) (dp R (wN R L) f) j))) (a := 0) (N := R 0 3) (Nat.zero_le _) (fun m x => ?_) (fun m j _ hj => ?_) (show R 0 3 < 2000 by omega)).trans ?_
  · rw [f_X9_farthest_L25, if_pos (nI_le (by omega) (by omega))]
  · dsimp only
    have hlt := bs_lt (paB R (wN R L) (dp R (wN R L) f) j) (R 0 0)
    have hc : cnt R (wN R L) (dp R (wN R L) f) j ≤ 7 := pc_le _
    rw [f_X9_farthest_L25, if_neg (nI_ge (by omega) (by omega)), s_passed hR (fun r hr => (wN_le hR L hr).2) hD q1 q2.2.1 hbw hbd hj, bind_some', bitCount_nI _ (by omega), bind_some', nI_1]
    simp only [bb]
    cases eb : bb R (wN R L) (dp R (wN R L) f) j with
    | none => rw [if_neg (show ¬ nI (pc (bs (paB R (wN R L) (dp R (wN R L) f) j) (R 0 0))) ≤ encC R (wN R L) (dp R (wN R L) f) none from nI_le_m1 (Nat.lt_of_le_of_lt hc (by decide)))]; rfl
    | some b =>
      have hcb : cnt R (wN R L) (dp R (wN R L) f) b ≤ 7 := pc_le _
      dsimp only
      by_cases h : cnt R (wN R L) (dp R (wN R L) f) j ≤ cnt R (wN R L) (dp R (wN R L) f) b
      · rw [if_pos (show nI (pc (bs (paB R (wN R L) (dp R (wN R L) f) j) (R 0 0))) ≤ encC R (wN R L) (dp R (wN R L) f) (some b) from nI_le h (by omega)), if_pos h]
      · rw [if_neg (show ¬ nI (pc (bs (paB R (wN R L) (dp R (wN R L) f) j) (R 0 0))) ≤ encC R (wN R L) (dp R (wN R L) f) (some b) from nI_ge (Nat.lt_of_not_le h) (Nat.lt_of_le_of_lt hc (by decide))), if_neg h]; rfl
  · rfl
theorem j_bestBoat {R : Nat → Nat → Nat} (hR : rvOK R) {L U f sd : Nat} {V : Nat → Nat} (hL : L < 2 ^ R 0 1) (hf : f < 2 ^ 16) {kind wide bank at_ pulls kind2 wide2 bank2 at2 pulls2 v : Nat → Int32} (T : tR R kind wide bank at_ pulls) (T2 : tR R kind2 wide2 bank2 at2 pulls2) (hv : vR (R 0 1) v L U f sd V) {bw bd bw2 bd2 : Nat → Int32} (hbw : rw_ (R 0 3) bw (R 8)) (hbd : rw_ (R 0 3) bd (R 9)) (hbw2 : rw_ (R 0 3) bw2 (R 8)) (hbd2 : rw_ (R 0 3) bd2 (R 9)) (w co de sp ha : Nat → Int32) (be al si tr : Int32) (th tr2 wh : Int32) (wi wa de2 sp2 : Nat → Int32) (be2 : Int32) :
    ∃ ans t, cA (f_X10_bestBoat (nI L) (nI f) w co de sp ha be al si (nI (R 0 0)) (nI (R 0 1)) (nI (R 0 3)) kind wide bank at_ pulls bw bd tr) ans t ∧ mA (f_X12_bestBoat th tr2 wh (nI (R 0 0)) (nI (R 0 1)) (nI (R 0 3)) kind2 wide2 bank2 at2 pulls2 bw2 bd2 v wi wa de2 sp2 be2) ans t := by
  have hn := hR.1.2.1
  have h5 := hR.1.2.2.2.2.1
  have h64 : 2 ^ R 0 0 ≤ 2 ^ 6 := Nat.pow_le_pow_right (by decide) hn
  have hD : ∀ r, r < R 0 0 → dp R (wN R L) f r < 2 ^ 20 := fun r _ => Nat.lt_of_le_of_lt (dp_le R (wN R L) f r) (by omega)
  unfold f_X10_bestBoat f_X12_bestBoat
  obtain ⟨c1, c2, c3, c4, c5, c6, c7, c8, e⟩ := s_farthest hR hL hf T hbw hbd w co de sp ha be al si
  obtain ⟨m1, m2, m3, m4, m5, e2, k1, k2, k3, k4, k5⟩ := m_runsNow hR hL hf T2 hv wi wa de2 sp2 be2
  rw [s_noRiver hR, bind_some', if_pos rfl, e, bind_some', e2, bind_some']
  dsimp only
  refine ⟨enc (bb R (wN R L) (dp R (wN R L) f) (R 0 3)), 0, ⟨_, _, _, _, _, _, _, _, rfl⟩, ⟨m1, m2, m3, m4, m5, ?_⟩⟩
  refine (iter (F := f_X12_bestBoat_L27 _ (nI (R 0 0)) (nI (R 0 3)) bw2 bd2 m1 m3) (k := fun x => some (x, 0, 0, -1, m1, m2, m3, m4, m5)) (g := fun j => enc (bb R (wN R L) (dp R (wN R L) f) j)) (a := 0) (N := R 0 3) (Nat.zero_le _) (fun m x => ?_) (fun m j _ hj => ?_) (show R 0 3 < 2000 by omega)).trans ?_
  · rw [f_X12_bestBoat_L27, if_pos (nI_le (by omega) (by omega))]; rfl
  · have hlt := bs_lt (paB R (wN R L) (dp R (wN R L) f) j) (R 0 0)
    have hc : cnt R (wN R L) (dp R (wN R L) f) j ≤ 7 := pc_le _
    rw [f_X12_bestBoat_L27, if_neg (nI_ge (by omega) (by omega)), nI_1]
    simp only [bb]
    cases eb : bb R (wN R L) (dp R (wN R L) f) j with
    | none => rw [if_pos (show enc none = -2 from rfl)]; rfl
    | some b =>
      have hb := bb_lt R _ _ j b eb
      have hlb := bs_lt (paB R (wN R L) (dp R (wN R L) f) b) (R 0 0)
      have hcb : cnt R (wN R L) (dp R (wN R L) f) b ≤ 7 := pc_le _
      rw [if_neg (show ¬ enc (some b) = -2 from nI_m2 (by omega)), show enc (some b) = nI b from rfl, m_passing hR (fun r hr => (wN_le hR L hr).2) hD k1 k3 hbw2 hbd2 hj, bind_some', bits_nI _ (by omega), bind_some', m_passing hR (fun r hr => (wN_le hR L hr).2) hD k1 k3 hbw2 hbd2 (show b < R 0 3 by omega), bind_some', bits_nI _ (by omega), bind_some']
      dsimp only
      by_cases h : cnt R (wN R L) (dp R (wN R L) f) j ≤ cnt R (wN R L) (dp R (wN R L) f) b
      · rw [if_pos (show nI (pc (bs (paB R (wN R L) (dp R (wN R L) f) j) (R 0 0))) ≤ nI (pc (bs (paB R (wN R L) (dp R (wN R L) f) b) (R 0 0))) from nI_le h (Nat.lt_of_le_of_lt hcb (by decide))), if_pos h]; rfl
      · rw [if_neg (show ¬ nI (pc (bs (paB R (wN R L) (dp R (wN R L) f) j) (R 0 0))) ≤ nI (pc (bs (paB R (wN R L) (dp R (wN R L) f) b) (R 0 0))) from nI_ge (Nat.lt_of_not_le h) (Nat.lt_of_le_of_lt hc (by decide))), if_neg h]; rfl
  · rfl
