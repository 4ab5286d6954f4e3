/-! letThrough -/
def ld (L M : Nat) : Nat := L &&& (L ^^^ M)
theorem i32_andn (a b : Int32) : a &&& (b ^^^ (-1)) = a &&& (a ^^^ b) := by
  apply Int32.toBitVec_inj.mp
  simp only [Int32.toBitVec_and, Int32.toBitVec_xor, show (-1 : Int32).toBitVec = BitVec.allOnes 32 from rfl]
  apply BitVec.eq_of_getLsbD_eq
  intro i hi
  simp only [BitVec.getLsbD_and, BitVec.getLsbD_xor, BitVec.getLsbD_allOnes, hi, decide_true]
  cases a.toBitVec.getLsbD i <;> cases b.toBitVec.getLsbD i <;> rfl
theorem andn_nI (L M : Nat) : nI L &&& (nI M ^^^ (-1)) = nI (ld L M) := by
  rw [i32_andn, nI_xor, nI_and]; rfl
theorem ld_le (L M : Nat) : ld L M ≤ L := Nat.and_le_left
theorem sub_le {L M : Nat} (h : ld M L = 0) : M ≤ L := by
  have : M &&& L = M := by
    apply Nat.eq_of_testBit_eq
    intro i
    have hi : (ld M L).testBit i = false := by rw [h]; exact Nat.zero_testBit i
    simp only [ld, Nat.testBit_and, Nat.testBit_xor] at hi
    rw [Nat.testBit_and]
    revert hi
    cases M.testBit i <;> cases L.testBit i <;> simp
  rw [← this]; exact Nat.and_le_right
/-- boat b passes everywhere when the ropes of M are let loose -/
def okB (R : Nat → Nat → Nat) (L f b M : Nat) : Bool := decide (bs (paB R (wN R (ld L M)) (dp R (wN R (ld L M)) f) b) (R 0 0) = 2 ^ R 0 0 - 1)
def eb (R : Nat → Nat → Nat) (L f b : Nat) : Nat → Option Nat
  | 0 => none
  | M + 1 => if ld M L = 0 then (match eb R L f b M with
    | none => if okB R L f b M = true then some M else none
    | some c => if pc c ≤ pc M then some c else if okB R L f b M = true then some M else some c) else eb R L f b M
theorem eb_lt (R : Nat → Nat → Nat) (L f b : Nat) : ∀ M c, eb R L f b M = some c → c < M
  | 0, c, h => by cases h
  | M + 1, c, h => by
    have ih := eb_lt R L f b M
    simp only [eb] at h
    split at h
    · cases e : eb R L f b M with
      | none =>
        rw [e] at h
        simp only at h
        split at h
        · injection h with h; omega
        · cases h
      | some d =>
        rw [e] at h
        have := ih d e
        simp only at h
        split at h
        · injection h with h; omega
        · split at h <;> (injection h with h; omega)
    · have := ih c h; omega
theorem eb_end (R : Nat → Nat → Nat) (L f b : Nat) : ∀ d, eb R L f b (L + 1 + d) = eb R L f b (L + 1)
  | 0 => rfl
  | d + 1 => by
    show eb R L f b ((L + 1 + d) + 1) = _
    simp only [eb]
    rw [if_neg (fun h => by have := sub_le h; omega)]
    have := eb_end R L f b d
    simp only [eb] at this
    exact this
theorem L_eased {R : Nat → Nat → Nat} (hR : rvOK R) {L f : Nat} (hL : L < 2 ^ R 0 1) (hf : f < 2 ^ 16) {kind wide bank at_ pulls bw bd : Nat → Int32} (T : tR R kind wide bank at_ pulls) (hbw : rw_ (R 0 3) bw (R 8)) (hbd : rw_ (R 0 3) bd (R 9)) {b : Nat} (hb : b < R 0 3) :
    ∀ (d M fuel : Nat) (w co de sp ha : Nat → Int32) (be al si : Int32), M + d = 2 ^ R 0 1 → d < fuel → ∃ w' co' de' sp' ha' be' al' si', f_X9_easedFor_L17 (fun x5 a1 a2 a3 a4 a5 a6 a7 a8 => some (x5, a1, a2, a3, a4, a5, a6, a7, a8)) (nI b) (nI (2 ^ R 0 0 - 1)) (nI (R 0 0)) (nI (R 0 1)) kind wide bank at_ pulls bw bd (nI L) (nI f) fuel (enc (eb R L f b M)) (nI M) w co de sp ha be al si = some (enc (eb R L f b (2 ^ R 0 1)), w', co', de', sp', ha', be', al', si') := by
  have hn := hR.1.2.1
  have hk := hR.1.2.2.1
  have h128 : 2 ^ R 0 1 ≤ 2 ^ 7 := Nat.pow_le_pow_right (by decide) hk
  have h64 : 2 ^ R 0 0 ≤ 2 ^ 6 := Nat.pow_le_pow_right (by decide) hn
  intro d
  induction d with
  | zero =>
    intro M fuel w co de sp ha be al si hM hf'
    obtain ⟨m, rfl⟩ := Nat.exists_eq_succ_of_ne_zero (show fuel ≠ 0 by omega)
    have e : M = 2 ^ R 0 1 := by omega
    rw [f_X9_easedFor_L17, s_l' _ (by omega), if_pos (nI_le (by omega) (by omega)), e]
    exact ⟨_, _, _, _, _, _, _, _, rfl⟩
  | succ d ih =>
    intro M fuel w co de sp ha be al si hM hf'
    obtain ⟨m, rfl⟩ := Nat.exists_eq_succ_of_ne_zero (show fuel ≠ 0 by omega)
    have hlm := ld_le M L
    have hll := ld_le L M
    rw [f_X9_easedFor_L17, s_l' _ (by omega), if_neg (nI_ge (by omega) (by omega)), andn_nI, andn_nI, nI_1]
    have ih2 := fun w co de sp ha be al si => ih (M + 1) m w co de sp ha be al si (by omega) (by omega)
    by_cases hs : ld M L = 0
    · rw [hs, if_pos (show nI 0 = 0 from rfl)]
      obtain ⟨c1, c2, c3, c4, c5, c6, c7, c8, e, q1, q2⟩ := s_run hR (L := ld L M) (by omega) hf T.kind T.wide T.bank T.at_ T.pulls w co de sp ha be al si
      have hD : ∀ r, r < R 0 0 → dp R (wN R (ld L M)) f r < 2 ^ 20 := fun r _ => Nat.lt_of_le_of_lt (dp_le R (wN R (ld L M)) f r) (by omega)
      have hp := s_passed hR (fun r hr => (wN_le hR (ld L M) hr).2) hD q1 q2.2.1 hbw hbd hb
      have hlt := bs_lt (paB R (wN R (ld L M)) (dp R (wN R (ld L M)) f) b) (R 0 0)
      have hq : (nI (bs (paB R (wN R (ld L M)) (dp R (wN R (ld L M)) f) b) (R 0 0)) = nI (2 ^ R 0 0 - 1)) ↔ okB R L f b M = true := by
        rw [nI_eq (by omega) (by omega)]; unfold okB; rw [decide_eq_true_iff]
      rw [e]
      simp only [bind_some']
      rw [hp]
      simp only [bind_some', eb, hs, if_true] at ih2 ⊢
      unfold f_X9_isFewer
      cases eq : eb R L f b M with
      | none =>
        rw [eq] at ih2
        rw [if_pos (show enc none = -2 from rfl), bind_some', if_neg (show ¬ (1 : Int32) = 0 by decide)]
        by_cases ho : okB R L f b M = true
        · rw [if_pos (hq.mpr ho)]
          simp only [ho, if_true] at ih2
          exact ih2 _ _ _ _ _ _ _ _
        · rw [if_neg (fun z => ho (hq.mp z))]
          simp only [ho] at ih2
          exact ih2 _ _ _ _ _ _ _ _
      | some c =>
        have hc := eb_lt R L f b M c eq
        have p1 := pc_le c
        have p2 := pc_le M
        rw [eq] at ih2
        simp only at ih2
        rw [if_neg (show ¬ enc (some c) = -2 from nI_m2 (by omega)), show enc (some c) = nI c from rfl, bitCount_nI M (by omega), bitCount_nI c (by omega), bind_some', bind_some']
        by_cases h2 : pc c ≤ pc M
        · rw [if_pos (nI_le h2 (by omega)), bind_some', if_pos rfl]
          rw [if_pos h2] at ih2
          exact ih2 _ _ _ _ _ _ _ _
        · rw [if_neg (nI_ge (by omega) (by omega)), bind_some', if_neg (show ¬ (1 : Int32) = 0 by decide)]
          rw [if_neg h2] at ih2
          by_cases ho : okB R L f b M = true
          · rw [if_pos (hq.mpr ho)]
            rw [if_pos ho] at ih2
            exact ih2 _ _ _ _ _ _ _ _
          · rw [if_neg (fun z => ho (hq.mp z))]
            rw [if_neg ho] at ih2
            exact ih2 _ _ _ _ _ _ _ _
    · rw [if_neg (by rw [show (0 : Int32) = nI 0 from rfl, nI_eq (by omega) (by decide)]; exact hs)]
      simp only [eb, hs, if_false] at ih2
      exact ih2 _ _ _ _ _ _ _ _
