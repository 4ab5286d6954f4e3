/-! pure facts: guards, numbers, the river's table -/
theorem gd_true {α : Type} (x : Option α) : gd true x = x := rfl
theorem nm_eq {α β : Type} (x : α) (f : α → β) : nm x f = f x := rfl
theorem inb_nI {i n : Nat} (h : i < n) (hn : n < 2 ^ 31) : inb (nI i) n = true := decide_eq_true (vp_in_nI h hn)
theorem nz_nI {i : Nat} (h : 0 < i) (hn : i < 2 ^ 31) : nz (nI i) = true := decide_eq_true (nI_ne0 h hn)
theorem bind_some' {α β : Type} (x : α) (f : α → Option β) : (some x).bind f = f x := rfl
theorem upd_s (f : Nat → Int32) (k : Nat) (x : Int32) : upd f k x k = x := pk_us
theorem upd_n (f : Nat → Int32) {k j : Nat} (x : Int32) (h : j ≠ k) : upd f k x j = f j := pk_un h
/-- the number i as an Int32 literal -/
theorem nI_lit (n : Nat) : (OfNat.ofNat n : Int32) = nI n := rfl
theorem i32_le {a b : Int32} : a ≤ b ↔ a.toInt ≤ b.toInt := Int32.le_iff_toInt_le
theorem i32_lt {a b : Int32} : a < b ↔ a.toInt < b.toInt := Int32.lt_iff_toInt_lt
theorem i32_eq {a b : Int32} : a = b ↔ a.toInt = b.toInt := ⟨fun h => by rw [h], fun h => Int32.toInt_inj.mp h⟩
/-- a difference of small numbers, and its maximum with 1 and with 0 -/
theorem sub_max1 {a b : Nat} (ha : a < 2 ^ 30) (hb : b < 2 ^ 30) : (if (1 : Int32) < nI a - nI b then nI a - nI b else 1) = nI (max 1 (a - b)) := by
  have h := pk_sub_toInt ha hb
  by_cases hc : (1 : Int32) < nI a - nI b
  · rw [if_pos hc]
    rw [i32_lt, h] at hc
    have h1 : (1 : Int32).toInt = 1 := rfl
    rw [h1] at hc
    rw [i32_eq, h, nI_toInt (by omega)]
    omega
  · rw [if_neg hc]
    rw [i32_lt, h] at hc
    have h1 : (1 : Int32).toInt = 1 := rfl
    rw [h1] at hc
    rw [i32_eq, nI_toInt (by omega), h1]
    omega
theorem sub_max0 {a b : Nat} (ha : a < 2 ^ 30) (hb : b < 2 ^ 30) : (if (0 : Int32) < nI a - nI b then nI a - nI b else 0) = nI (a - b) := by
  have h := pk_sub_toInt ha hb
  have h0 : (0 : Int32).toInt = 0 := rfl
  by_cases hc : (0 : Int32) < nI a - nI b
  · rw [if_pos hc]
    rw [i32_lt, h, h0] at hc
    rw [i32_eq, h, nI_toInt (by omega)]
    omega
  · rw [if_neg hc]
    rw [i32_lt, h, h0] at hc
    rw [i32_eq, nI_toInt (by omega), h0]
    omega
theorem max1_nI {a : Nat} (ha : a < 2 ^ 31) : (if (1 : Int32) < nI a then nI a else 1) = nI (max 1 a) := by
  by_cases hc : 1 < a
  · rw [if_pos (show (1 : Int32) < nI a from nI_lt (a := 1) hc ha)]
    congr 1; omega
  · rw [if_neg (show ¬ (1 : Int32) < nI a from nI_nlt (b := a) (a := 1) (by omega) (by decide))]
    have : max 1 a = 1 := by omega
    rw [this]; rfl
theorem nI_sub {a b : Nat} (h : b ≤ a) : nI a - nI b = nI (a - b) := pk_sub h
/-! bits -/
/-- the set of those i below n that p holds of, as bits -/
def bs (p : Nat → Bool) : Nat → Nat
  | 0 => 0
  | n + 1 => bs p n + if p n then 2 ^ n else 0
theorem bs_lt (p : Nat → Bool) : ∀ n, bs p n < 2 ^ n
  | 0 => by simp [bs]
  | n + 1 => by
    have h := bs_lt p n
    simp only [bs]
    split <;> omega
theorem bs_congr {p q : Nat → Bool} : ∀ {n : Nat}, (∀ i, i < n → p i = q i) → bs p n = bs q n
  | 0, _ => rfl
  | n + 1, h => by simp only [bs]; rw [bs_congr (fun i hi => h i (by omega)), h n (by omega)]
theorem bs_test (p : Nat → Bool) : ∀ (n i : Nat), (bs p n).testBit i = (decide (i < n) && p i)
  | 0, i => by simp [bs]
  | n + 1, i => by
    have hlt := bs_lt p n
    have ih := bs_test p n i
    simp only [bs]
    by_cases hp : p n = true
    · rw [if_pos hp, show bs p n + 2 ^ n = 2 ^ n * 1 + bs p n by omega]
      by_cases hi : i < n
      · rw [Nat.testBit_two_pow_mul_add 1 hlt, if_pos hi, ih]
        simp [hi, show i < n + 1 by omega]
      · rw [Nat.testBit_two_pow_mul_add 1 hlt, if_neg hi]
        by_cases hn : i = n
        · subst hn; simp [hp]
        · have h1 : ¬ i < n + 1 := by omega
          simp only [h1, decide_false, Bool.false_and]
          have h2 : i - n ≠ 0 := by omega
          cases h3 : i - n with
          | zero => exact absurd h3 h2
          | succ j => exact (Nat.testBit_succ 1 j).trans (Nat.zero_testBit j)
    · rw [if_neg hp, Nat.add_zero, ih]
      by_cases hi : i < n
      · simp [hi, show i < n + 1 by omega]
      · by_cases hn : i = n
        · subst hn; simp [hp]
        · simp [hi, show ¬ i < n + 1 by omega]
theorem bs_self {m n : Nat} (h : m < 2 ^ n) : bs (fun i => m.testBit i) n = m := by
  apply Nat.eq_of_testBit_eq
  intro i
  rw [bs_test]
  by_cases hi : i < n
  · simp [hi]
  · simp only [hi, decide_false, Bool.false_and]
    exact (Nat.testBit_lt_two_pow (Nat.lt_of_lt_of_le h (Nat.pow_le_pow_right (by decide) (by omega)))).symm
theorem s_l' : ∀ n, n < 31 → (1 : Int32) <<< (nI n &&& 31) = nI (2 ^ n) := by decide +kernel
theorem nI_or (a b : Nat) : nI a ||| nI b = nI (a ||| b) := by
  apply Int32.toBitVec_inj.mp
  simp [nI]
theorem nI_and (a b : Nat) : nI a &&& nI b = nI (a &&& b) := by
  apply Int32.toBitVec_inj.mp
  simp [nI]
theorem nI_xor (a b : Nat) : nI a ^^^ nI b = nI (a ^^^ b) := by
  apply Int32.toBitVec_inj.mp
  simp [nI]
theorem bs_or {p : Nat → Bool} {n : Nat} : bs p n ||| 2 ^ n = bs p n + 2 ^ n := by
  have h := bs_lt p n
  rw [Nat.or_comm, show (2 ^ n : Nat) = 2 ^ n * 1 by omega, ← Nat.two_pow_add_eq_or_of_lt h]
  omega
/-- one step of a loop that gathers bits -/
theorem bs_step (p : Nat → Bool) {n : Nat} (hn : n < 31) : nI (bs p n) ||| ((1 : Int32) <<< (nI n &&& 31)) = nI (bs p n + 2 ^ n) := by
  rw [s_l' n hn, nI_or, bs_or]
/-- a bit read by shifting -/
theorem shr_bit : ∀ (m k : Nat), m < 2 ^ 31 → k < 31 → ((nI m >>> (nI k &&& 31)) &&& 1 = (1 : Int32) ↔ m.testBit k = true) := by
  intro m k hm hk
  have h31 : (nI k &&& 31 : Int32) = nI k := by
    have := (show ∀ k, k < 31 → (nI k &&& 31 : Int32) = nI k by decide +kernel) k hk
    exact this
  have hs : ((nI k &&& 31 : Int32).toBitVec.smod 32).toNat = k := (show ∀ k, k < 31 → ((nI k &&& 31 : Int32).toBitVec.smod 32).toNat = k by decide +kernel) k hk
  rw [pk_shrN hm _ k hs]
  have h1 : m / 2 ^ k < 2 ^ 31 := Nat.lt_of_le_of_lt (Nat.div_le_self _ _) hm
  rw [show (1 : Int32) = nI 1 from rfl, nI_and, nI_eq (Nat.lt_of_le_of_lt Nat.and_le_right (by decide)) (by decide), Nat.and_one_is_mod, Nat.testBit_eq_decide_div_mod_eq]
  simp
theorem isIn_nI {m k : Nat} (hm : m < 2 ^ 31) (hk : k < 31) : f_X10_isIn (nI m) (nI k) = some (if m.testBit k then 1 else 0) := by
  unfold f_X10_isIn
  by_cases h : m.testBit k = true
  · rw [if_pos ((shr_bit m k hm hk).mpr h), if_pos h]
  · rw [if_neg (fun h2 => h ((shr_bit m k hm hk).mp h2)), if_neg h]
theorem bit_nI {m k : Nat} (hm : m < 2 ^ 31) (hk : k < 31) : f_X12_bit (nI m) (nI k) = some (if m.testBit k then 1 else 0) := by
  unfold f_X12_bit
  by_cases h : m.testBit k = true
  · first | rw [if_pos ((shr_bit m k hm hk).mpr h), if_pos h] | (rw [if_neg (fun h2 => h2 ((shr_bit m k hm hk).mpr h)), if_pos h])
  · first | rw [if_neg (fun h2 => h ((shr_bit m k hm hk).mp h2)), if_neg h] | (rw [if_pos (fun h2 => h ((shr_bit m k hm hk).mp h2)), if_neg h])
