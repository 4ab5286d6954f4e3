/-! words: letters, last first -/
def cw : List Nat → Nat
  | [] => 0
  | x :: r => 256 * cw r + (96 + x)
def mw : List Nat → Nat
  | [] => 0
  | x :: r => 32 * mw r + x
def lv (l : List Nat) : Prop := ∀ x, x ∈ l → 1 ≤ x ∧ x ≤ 26
theorem lv_t {x : Nat} {r : List Nat} (h : lv (x :: r)) : (1 ≤ x ∧ x ≤ 26) ∧ lv r := ⟨h x List.mem_cons_self, fun y hy => h y (List.mem_cons_of_mem _ hy)⟩
theorem lv_c {x : Nat} {r : List Nat} (h : 1 ≤ x ∧ x ≤ 26) (hr : lv r) : lv (x :: r) := fun y hy => by
  rcases List.mem_cons.mp hy with e | e
  · rw [e]; exact h
  · exact hr y e
theorem lv_nil : lv [] := fun x hx => absurd hx List.not_mem_nil
theorem cw_inj : ∀ {a b : List Nat}, lv a → lv b → cw a = cw b → a = b
  | [], [], _, _, _ => rfl
  | [], y :: s, _, _, h => by simp only [cw] at h; omega
  | x :: r, [], _, _, h => by simp only [cw] at h; omega
  | x :: r, y :: s, ha, hb, h => by
    have h1 := (lv_t ha).1
    have h2 := (lv_t hb).1
    simp only [cw] at h
    have e : x = y := by omega
    subst e
    rw [cw_inj (lv_t ha).2 (lv_t hb).2 (by omega)]
theorem mw_inj : ∀ {a b : List Nat}, lv a → lv b → mw a = mw b → a = b
  | [], [], _, _, _ => rfl
  | [], y :: s, _, hb, h => by have := (lv_t hb).1; simp only [mw] at h; omega
  | x :: r, [], ha, _, h => by have := (lv_t ha).1; simp only [mw] at h; omega
  | x :: r, y :: s, ha, hb, h => by
    have h1 := (lv_t ha).1
    have h2 := (lv_t hb).1
    simp only [mw] at h
    have e : x = y := by omega
    subst e
    rw [mw_inj (lv_t ha).2 (lv_t hb).2 (by omega)]
theorem cw_lt : ∀ {l : List Nat}, lv l → 2 * cw l < 256 ^ l.length
  | [], _ => by simp [cw]
  | x :: r, h => by
    have h1 := (lv_t h).1
    have ih := cw_lt (lv_t h).2
    simp only [cw, List.length_cons, Nat.pow_succ]
    omega
theorem mw_lt : ∀ {l : List Nat}, lv l → mw l < 32 ^ l.length
  | [], _ => by simp [mw]
  | x :: r, h => by
    have h1 := (lv_t h).1
    have ih := mw_lt (lv_t h).2
    simp only [mw, List.length_cons, Nat.pow_succ]
    omega
theorem cw_63 {l : List Nat} (h : lv l) (h8 : l.length ≤ 8) : cw l < 2 ^ 63 := by
  have h1 := cw_lt h
  have h2 : 256 ^ l.length ≤ 256 ^ 8 := Nat.pow_le_pow_right (by decide) h8
  omega
theorem mw_63 {l : List Nat} (h : lv l) (h8 : l.length ≤ 8) : mw l < 2 ^ 63 := by
  have h1 := mw_lt h
  have h2 : 32 ^ l.length ≤ 32 ^ 8 := Nat.pow_le_pow_right (by decide) h8
  omega
/-- two words are the same in the class if they are in the reference -/
theorem w_same {a b : List Nat} (ha : lv a) (hb : lv b) (a8 : a.length ≤ 8) (b8 : b.length ≤ 8) : (lN (cw a) = lN (cw b) ↔ a = b) ∧ (lN (mw a) = lN (mw b) ↔ a = b) := by
  refine ⟨⟨fun h => ?_, fun h => by rw [h]⟩, ⟨fun h => ?_, fun h => by rw [h]⟩⟩
  · exact cw_inj ha hb ((pk_lEQ (cw_63 ha a8) (cw_63 hb b8)).mp h)
  · exact mw_inj ha hb ((pk_lEQ (mw_63 ha a8) (mw_63 hb b8)).mp h)
theorem code_step {c b : Nat} (hc : c < 2 ^ 55) (hb : b < 128) : (lN c <<< ((8 : Int32).toInt64 &&& 63)) ||| (nI b).toInt64 = lN (256 * c + b) := by
  rw [nI_l (by omega)]
  apply Int64.toBitVec_inj.mp
  rw [Int64.toBitVec_or, Int64.toBitVec_shiftLeft, show ((8 : Int32).toInt64 &&& 63).toBitVec.smod 64 = 8#64 by decide]
  apply BitVec.eq_of_toNat_eq
  rw [BitVec.toNat_or, BitVec.shiftLeft_eq', BitVec.toNat_shiftLeft]
  show ((c % 2 ^ 64) <<< (8#64).toNat) % 2 ^ 64 ||| b % 2 ^ 64 = (256 * c + b) % 2 ^ 64
  rw [Nat.mod_eq_of_lt (show c < 2 ^ 64 by omega), Nat.mod_eq_of_lt (show b < 2 ^ 64 by omega), show (8#64).toNat = 8 from rfl]
  have e : c <<< 8 = 256 * c := by rw [Nat.shiftLeft_eq]; omega
  rw [e, Nat.mod_eq_of_lt (show 256 * c < 2 ^ 64 by omega), Nat.mod_eq_of_lt (show 256 * c + b < 2 ^ 64 by omega), ← e, ← Nat.shiftLeft_add_eq_or_of_lt (show b < 2 ^ 8 by omega)]
theorem word_step {m b : Nat} (hb : 97 ≤ b) (hb2 : b < 2 ^ 31) : 32 * lN m + ((nI b - 97 + 1).toInt64) = lN (32 * m + (b - 96)) := by
  rw [show (97 : Int32) = nI 97 from rfl, nI_sub hb, nI_1, nI_l (by omega), show (32 : Int64) = lN 32 from rfl, lN_mul, lN_add]
  rw [show b - 97 + 1 = b - 96 by omega]
/-! bytes -/
/-- both tapes up to e, and the bytes there -/
def tpB (e : Nat) (tc tm : (Nat → Int32)) (bt : Nat → Nat) : Prop := ∀ i, i < e → tm i &&& 255 = nI (bt i) ∧ bt i < 256 ∧ ((bt i < 128 ∧ tc i = nI (bt i)) ∨ (128 ≤ bt i ∧ tc i < 0))
theorem byte_of {x : Int32} (h1 : -128 ≤ x.toInt) (h2 : x.toInt < 128) : ∃ u : Nat, x &&& 255 = nI u ∧ u < 256 ∧ ((u < 128 ∧ x = nI u) ∨ (128 ≤ u ∧ x < 0)) := by
  refine ⟨x.toBitVec.toNat % 2 ^ 8, pk_and x 8 rfl, Nat.mod_lt _ (by decide), ?_⟩
  have hd : x.toInt = x.toBitVec.toInt := rfl
  rw [hd, BitVec.toInt_eq_toNat_cond] at h1 h2
  have hl := x.toBitVec.isLt
  by_cases h : 2 * x.toBitVec.toNat < 2 ^ 32
  · rw [if_pos h] at h1 h2
    left
    refine ⟨by omega, ?_⟩
    rw [Nat.mod_eq_of_lt (by omega)]
    apply Int32.toBitVec_inj.mp
    apply BitVec.eq_of_toNat_eq
    rw [pk_tn (by omega)]
  · rw [if_neg h] at h1 h2
    right
    refine ⟨by omega, ?_⟩
    rw [i32_lt, hd, BitVec.toInt_eq_toNat_cond, if_neg h]
    have : (0 : Int32).toInt = 0 := rfl
    omega
theorem tpB_of {e : Nat} {tc tm : (Nat → Int32)} (h : ∀ i, i < e → tc i = tm i ∧ -128 ≤ (tm i).toInt ∧ (tm i).toInt < 128) : ∃ bt, tpB e tc tm bt := by
  refine ⟨fun i => (tm i).toBitVec.toNat % 2 ^ 8, fun i hi => ?_⟩
  obtain ⟨a, b, c⟩ := h i hi
  obtain ⟨u, u1, u2, u3⟩ := byte_of b c
  have : (tm i).toBitVec.toNat % 2 ^ 8 = u := by
    have := pk_and (tm i) (m := 255) 8 rfl
    rw [this] at u1
    exact (nI_eq (Nat.lt_trans (Nat.mod_lt _ (by decide)) (by decide)) (by omega)).mp u1
  (try dsimp only)
  rw [this, a]
  exact ⟨u1, u2, u3⟩
theorem m_byteAt {e : Nat} (he : e ≤ 900) {tc tm : (Nat → Int32)} {bt : Nat → Nat} (h : tpB e tc tm bt) {p : Nat} (hp : p ≤ e) : f_X12_byteAt (nI p) tm (nI e) = some (if p < e then nI (bt p) else -1) := by
  unfold f_X12_byteAt
  by_cases h1 : p < e
  · rw [if_neg (nI_ge h1 (by omega)), inb_nI (show p < 900 by omega) (by decide), gd_true, nI_clamp (by omega), (h p h1).1, if_pos h1]
  · rw [if_pos (nI_le (by omega) (by omega)), if_neg h1]
/-- the class's byte is the number c that is small -/
theorem c_eq {e : Nat} {tc tm : (Nat → Int32)} {bt : Nat → Nat} (h : tpB e tc tm bt) {p c : Nat} (hp : p < e) (hc : c < 128) : tc p = nI c ↔ bt p = c := by
  obtain ⟨-, h2, h3⟩ := h p hp
  rcases h3 with ⟨h4, h5⟩ | ⟨h4, h5⟩
  · rw [h5, nI_eq (by omega) (by omega)]
  · constructor
    · intro h6
      rw [h6] at h5
      exact absurd h5 (nI_pos (by omega))
    · omega
/-- the class's byte lies between a and b -/
theorem c_in {e : Nat} {tc tm : (Nat → Int32)} {bt : Nat → Nat} (h : tpB e tc tm bt) {p a b : Nat} (hp : p < e) (ha : 1 ≤ a ∧ a < 128) (hb : b < 128) : (a ≤ bt p ∧ bt p ≤ b → ¬ tc p < nI a ∧ ¬ nI b < tc p ∧ tc p = nI (bt p)) ∧ (¬ (a ≤ bt p ∧ bt p ≤ b) → tc p < nI a ∨ (¬ tc p < nI a ∧ nI b < tc p)) := by
  obtain ⟨-, h2, h3⟩ := h p hp
  refine ⟨fun hi => ?_, fun hn => ?_⟩
  · rcases h3 with ⟨h4, h5⟩ | ⟨h4, h5⟩
    · rw [h5]
      exact ⟨nI_nlt hi.1 (by omega), nI_nlt hi.2 (by omega), rfl⟩
    · omega
  · rcases h3 with ⟨h4, h5⟩ | ⟨h4, h5⟩
    · rw [h5]
      by_cases h6 : bt p < a
      · exact Or.inl (nI_lt h6 (by omega))
      · exact Or.inr ⟨nI_nlt (by omega) (by omega), nI_lt (by omega) (by omega)⟩
    · left
      rw [i32_lt] at h5 ⊢
      rw [nI_toInt (show a < 2 ^ 31 by omega)]
      have : (0 : Int32).toInt = 0 := rfl
      omega
