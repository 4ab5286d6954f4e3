/-! tokens -/
theorem t_blank {e : Nat} (he : e ≤ 900) {tc tm : (Nat → Int32)} {bt : Nat → Nat} (h : tpB e tc tm bt) {K : Int32 → Option (Int32 × Int32 × Int32 × Int32 × Int64)} {K2 : Int32 → Option (Int32 × Int32 × Int32 × Int32 × Int64)} : ∀ (d p f1 f2 : Nat), p + d = e → d < f1 → d < f2 →
    ∃ p', p ≤ p' ∧ p' ≤ e ∧ f_X5_next_L0 K tc (nI e) f1 (nI p) = K (nI p') ∧ f_X12_goesOn_L9 K2 tm (nI e) f2 (nI p) = K2 (nI p') := by
  intro d
  induction d with
  | zero =>
    intro p f1 f2 hp h1 h2
    obtain ⟨m1, rfl⟩ := Nat.exists_eq_succ_of_ne_zero (show f1 ≠ 0 by omega)
    obtain ⟨m2, rfl⟩ := Nat.exists_eq_succ_of_ne_zero (show f2 ≠ 0 by omega)
    have hpe : ¬ p < e := by omega
    refine ⟨p, Nat.le_refl _, by omega, ?_, ?_⟩
    · rw [f_X5_next_L0, if_pos (nI_le (by omega) (by omega))]
    · rw [f_X12_goesOn_L9, m_byteAt he h (by omega), bind_some', if_neg hpe, if_neg (show ¬ (-1 : Int32) = 32 by decide)]
  | succ d ih =>
    intro p f1 f2 hp h1 h2
    obtain ⟨m1, rfl⟩ := Nat.exists_eq_succ_of_ne_zero (show f1 ≠ 0 by omega)
    obtain ⟨m2, rfl⟩ := Nat.exists_eq_succ_of_ne_zero (show f2 ≠ 0 by omega)
    have hpe : p < e := by omega
    have hb := (h p hpe).2.1
    have hc := c_eq h hpe (c := 32) (by decide)
    rw [f_X5_next_L0, if_neg (nI_ge (by omega) (by omega)), inb_nI (show p < 900 by omega) (by decide), gd_true, nI_clamp (show p < 2 ^ 31 by omega), f_X12_goesOn_L9, m_byteAt he h (by omega), bind_some', if_pos hpe, nI_1]
    by_cases h32 : bt p = 32
    · rw [if_pos (show tc p = 32 from hc.mpr h32), if_pos (show nI (bt p) = 32 by rw [h32]; rfl), nm_eq, nm_eq]
      obtain ⟨p', q1, q2, q3, q4⟩ := ih (p + 1) m1 m2 (by omega) (by omega) (by omega)
      exact ⟨p', by omega, q2, q3, q4⟩
    · rw [if_neg (show ¬ tc p = 32 from fun z => h32 (hc.mp z)), if_neg (show ¬ nI (bt p) = 32 by rw [show (32 : Int32) = nI 32 from rfl, nI_eq (by omega) (by decide)]; exact h32)]
      exact ⟨p, Nat.le_refl _, by omega, rfl, rfl⟩
theorem m_isLetter (u : Nat) (hu : u < 256) : f_X12_isLetter (nI u) = some (if 97 ≤ u ∧ u ≤ 122 then 1 else 0) := by
  unfold f_X12_isLetter
  by_cases h1 : u < 97
  · rw [if_pos (show nI u < 97 from nI_lt (b := 97) h1 (by decide)), if_neg (by omega)]
  · rw [if_neg (show ¬ nI u < 97 from nI_nlt (b := 97) (by omega) (by omega))]
    by_cases h2 : 122 < u
    · rw [if_pos (show (122 : Int32) < nI u from nI_lt (a := 122) h2 (by omega)), if_neg (by omega)]
    · rw [if_neg (show ¬ (122 : Int32) < nI u from nI_nlt (a := 122) (by omega) (by decide)), if_pos (by omega)]
theorem m_isDigit (u : Nat) (hu : u < 256) : f_X12_isDigit (nI u) = some (if 48 ≤ u ∧ u ≤ 57 then 1 else 0) := by
  unfold f_X12_isDigit
  by_cases h1 : u < 48
  · rw [if_pos (show nI u < 48 from nI_lt (b := 48) h1 (by decide)), if_neg (by omega)]
  · rw [if_neg (show ¬ nI u < 48 from nI_nlt (b := 48) (by omega) (by omega))]
    by_cases h2 : 57 < u
    · rw [if_pos (show (57 : Int32) < nI u from nI_lt (a := 57) h2 (by omega)), if_neg (by omega)]
    · rw [if_neg (show ¬ (57 : Int32) < nI u from nI_nlt (a := 57) (by omega) (by decide)), if_pos (by omega)]
/-- what the letters so far are -/
def wI (j : Nat) (code word : Int64) : Prop := j ≤ 8 → ∃ l, lv l ∧ l.length = j ∧ code = lN (cw l) ∧ word = lN (mw l)
theorem t_word {e : Nat} (he : e ≤ 900) {tc tm : (Nat → Int32)} {bt : Nat → Nat} (h : tpB e tc tm bt) {K : Int32 → Int64 → Option (Int32 × Int32 × Int64)} {K2 : Int32 → Int32 → Int64 → Option (Int32 × Int32 × Int32 × Int32 × Int64)} : ∀ (d p j f1 f2 : Nat) (code word : Int64), p + d = e → j ≤ p → d < f1 → d < f2 → wI j code word →
    ∃ r code' word', p + r ≤ e ∧ f_X5_scanWord_L5 K tc (nI e) f1 (nI p) code = K (nI (p + r)) code' ∧ f_X12_goesOn_L84 K2 tm (nI e) f2 (nI j) (nI p) word = K2 (nI (j + r)) (nI (p + r)) word' ∧ wI (j + r) code' word' ∧ (p < e → 97 ≤ bt p ∧ bt p ≤ 122 → 1 ≤ r) := by
  intro d
  induction d with
  | zero =>
    intro p j f1 f2 code word hp hj h1 h2 hw
    obtain ⟨m1, rfl⟩ := Nat.exists_eq_succ_of_ne_zero (show f1 ≠ 0 by omega)
    obtain ⟨m2, rfl⟩ := Nat.exists_eq_succ_of_ne_zero (show f2 ≠ 0 by omega)
    have hpe : ¬ p < e := by omega
    refine ⟨0, code, word, by omega, ?_, ?_, hw, fun z => absurd z hpe⟩
    · rw [f_X5_scanWord_L5, if_pos (nI_le (by omega) (by omega))]; rfl
    · rw [f_X12_goesOn_L84, m_byteAt he h (by omega), bind_some', if_neg hpe, show f_X12_isLetter (-1) = some 0 from by decide, bind_some', if_pos rfl]; rfl
  | succ d ih =>
    intro p j f1 f2 code word hp hj h1 h2 hw
    obtain ⟨m1, rfl⟩ := Nat.exists_eq_succ_of_ne_zero (show f1 ≠ 0 by omega)
    obtain ⟨m2, rfl⟩ := Nat.exists_eq_succ_of_ne_zero (show f2 ≠ 0 by omega)
    have hpe : p < e := by omega
    have hb := (h p hpe).2.1
    have hc := c_in h hpe (a := 97) (b := 122) (by decide) (by decide)
    rw [f_X5_scanWord_L5, if_neg (nI_ge (by omega) (by omega)), inb_nI (show p < 900 by omega) (by decide), gd_true, gd_true, gd_true, nI_clamp (show p < 2 ^ 31 by omega), f_X12_goesOn_L84, m_byteAt he h (by omega), bind_some', bind_some', if_pos hpe, m_isLetter _ hb, bind_some', nI_1]
    by_cases hl : 97 ≤ bt p ∧ bt p ≤ 122
    · obtain ⟨c1, c2, c3⟩ := hc.1 hl
      rw [if_neg (show ¬ tc p < 97 from c1), if_neg (show ¬ (122 : Int32) < tc p from c2), nm_eq, nm_eq, nI_1, if_pos hl, if_neg one_ne]
      have hw' : ∀ wd, (j ≤ 7 → wd = 32 * word + ((nI (bt p) - 97 + 1).toInt64)) → wI (j + 1) ((code <<< ((8 : Int32).toInt64 &&& 63)) ||| (tc p).toInt64) wd := by
        intro wd hwd h8
        obtain ⟨l, l1, l2, l3, l4⟩ := hw (by omega)
        refine ⟨(bt p - 96) :: l, lv_c (by omega) l1, by rw [List.length_cons, l2], ?_, ?_⟩
        · have hlt := cw_lt l1
          have hp2 : 256 ^ l.length ≤ 256 ^ 7 := Nat.pow_le_pow_right (by decide) (by omega)
          rw [l3, c3, code_step (by omega) (by omega), cw]
          rw [show 96 + (bt p - 96) = bt p by omega]
        · rw [hwd (by omega), l4, word_step hl.1 (by omega), mw]
      by_cases h8 : 8 ≤ j
      · rw [if_pos (show (8 : Int32) ≤ nI j from nI_le (a := 8) h8 (by omega)), nm_eq]
        obtain ⟨r, cd, wd, q1, q2, q3, q4, -⟩ := ih (p + 1) (j + 1) m1 m2 _ _ (by omega) (by omega) (by omega) (by omega) (hw' word (fun z => absurd z (by omega)))
        refine ⟨r + 1, cd, wd, by omega, ?_, ?_, ?_, fun _ _ => by omega⟩
        · rw [q2, show p + 1 + r = p + (r + 1) by omega]
        · rw [q3, show p + 1 + r = p + (r + 1) by omega, show j + 1 + r = j + (r + 1) by omega]
        · rw [show j + (r + 1) = j + 1 + r by omega]; exact q4
      · rw [if_neg (show ¬ (8 : Int32) ≤ nI j from nI_ge (b := 8) (by omega) (by decide)), nm_eq, nm_eq]
        obtain ⟨r, cd, wd, q1, q2, q3, q4, -⟩ := ih (p + 1) (j + 1) m1 m2 _ _ (by omega) (by omega) (by omega) (by omega) (hw' _ (fun _ => rfl))
        refine ⟨r + 1, cd, wd, by omega, ?_, ?_, ?_, fun _ _ => by omega⟩
        · rw [q2, show p + 1 + r = p + (r + 1) by omega]
        · rw [q3, show p + 1 + r = p + (r + 1) by omega, show j + 1 + r = j + (r + 1) by omega]
        · rw [show j + (r + 1) = j + 1 + r by omega]; exact q4
    · rw [if_neg hl, if_pos rfl]
      refine ⟨0, code, word, by omega, ?_, rfl, hw, fun _ z => absurd z hl⟩
      rcases hc.2 hl with c1 | ⟨c1, c2⟩
      · rw [if_pos (show tc p < 97 from c1)]; rfl
      · rw [if_neg (show ¬ tc p < 97 from c1), if_pos (show (122 : Int32) < tc p from c2)]; rfl
/-- what the digits so far are -/
def dI (j : Nat) (v n : Int32) : Prop := j ≤ 3 → ∃ x, x < 10 ^ j ∧ v = nI x ∧ n = nI x
theorem t_whole {e : Nat} (he : e ≤ 900) {tc tm : (Nat → Int32)} {bt : Nat → Nat} (h : tpB e tc tm bt) {K : Int32 → Int32 → Option (Int32 × Int32 × Int32)} {K2 : Int32 → Int32 → Int32 → Option (Int32 × Int32 × Int32 × Int32 × Int64)} : ∀ (d p j f1 f2 : Nat) (v n : Int32), p + d = e → j ≤ p → d < f1 → d < f2 → dI j v n →
    ∃ r v' n', p + r ≤ e ∧ f_X5_scanWhole_L5 K tc (nI e) f1 (nI p) v = K (nI (p + r)) v' ∧ f_X12_goesOn_L173 K2 tm (nI e) f2 (nI j) (nI p) n = K2 (nI (j + r)) (nI (p + r)) n' ∧ dI (j + r) v' n' := by
  intro d
  induction d with
  | zero =>
    intro p j f1 f2 v n hp hj h1 h2 hw
    obtain ⟨m1, rfl⟩ := Nat.exists_eq_succ_of_ne_zero (show f1 ≠ 0 by omega)
    obtain ⟨m2, rfl⟩ := Nat.exists_eq_succ_of_ne_zero (show f2 ≠ 0 by omega)
    have hpe : ¬ p < e := by omega
    refine ⟨0, v, n, by omega, ?_, ?_, hw⟩
    · rw [f_X5_scanWhole_L5, if_pos (nI_le (by omega) (by omega))]; rfl
    · rw [f_X12_goesOn_L173, m_byteAt he h (by omega), bind_some', if_neg hpe, show f_X12_isDigit (-1) = some 0 from by decide, bind_some', if_pos rfl]; rfl
  | succ d ih =>
    intro p j f1 f2 v n hp hj h1 h2 hw
    obtain ⟨m1, rfl⟩ := Nat.exists_eq_succ_of_ne_zero (show f1 ≠ 0 by omega)
    obtain ⟨m2, rfl⟩ := Nat.exists_eq_succ_of_ne_zero (show f2 ≠ 0 by omega)
    have hpe : p < e := by omega
    have hb := (h p hpe).2.1
    have hc := c_in h hpe (a := 48) (b := 57) (by decide) (by decide)
    rw [f_X5_scanWhole_L5, if_neg (nI_ge (by omega) (by omega)), inb_nI (show p < 900 by omega) (by decide), gd_true, gd_true, gd_true, nI_clamp (show p < 2 ^ 31 by omega), f_X12_goesOn_L173, m_byteAt he h (by omega), bind_some', bind_some', if_pos hpe, m_isDigit _ hb, bind_some', nI_1]
    by_cases hl : 48 ≤ bt p ∧ bt p ≤ 57
    · obtain ⟨c1, c2, c3⟩ := hc.1 hl
      rw [if_neg (show ¬ tc p < 48 from c1), if_neg (show ¬ (57 : Int32) < tc p from c2), nm_eq, nm_eq, nI_1, if_pos hl, if_neg one_ne]
      have hw' : ∀ wd, (j ≤ 2 → wd = (10 * n + nI (bt p)) - 48) → dI (j + 1) ((10 * v + tc p) - 48) wd := by
        intro wd hwd h8
        obtain ⟨x, l1, l2, l3⟩ := hw (by omega)
        have hst : (10 * nI x + nI (bt p)) - 48 = nI (10 * x + (bt p - 48)) := by
          rw [show (10 : Int32) = nI 10 from rfl, show (48 : Int32) = nI 48 from rfl, pk_mul, nI_add, nI_sub (by omega)]
          rw [show 10 * x + bt p - 48 = 10 * x + (bt p - 48) by omega]
        refine ⟨10 * x + (bt p - 48), by rw [Nat.pow_succ]; omega, ?_, ?_⟩
        · rw [l2, c3, hst]
        · rw [hwd (by omega), l3, hst]
      by_cases h8 : 3 ≤ j
      · rw [if_pos (show (3 : Int32) ≤ nI j from nI_le (a := 3) h8 (by omega)), nm_eq]
        obtain ⟨r, cd, wd, q1, q2, q3, q4⟩ := ih (p + 1) (j + 1) m1 m2 _ _ (by omega) (by omega) (by omega) (by omega) (hw' n (fun z => absurd z (by omega)))
        refine ⟨r + 1, cd, wd, by omega, ?_, ?_, ?_⟩
        · rw [q2, show p + 1 + r = p + (r + 1) by omega]
        · rw [q3, show p + 1 + r = p + (r + 1) by omega, show j + 1 + r = j + (r + 1) by omega]
        · rw [show j + (r + 1) = j + 1 + r by omega]; exact q4
      · rw [if_neg (show ¬ (3 : Int32) ≤ nI j from nI_ge (b := 3) (by omega) (by decide)), nm_eq, nm_eq]
        obtain ⟨r, cd, wd, q1, q2, q3, q4⟩ := ih (p + 1) (j + 1) m1 m2 _ _ (by omega) (by omega) (by omega) (by omega) (hw' _ (fun _ => rfl))
        refine ⟨r + 1, cd, wd, by omega, ?_, ?_, ?_⟩
        · rw [q2, show p + 1 + r = p + (r + 1) by omega]
        · rw [q3, show p + 1 + r = p + (r + 1) by omega, show j + 1 + r = j + (r + 1) by omega]
        · rw [show j + (r + 1) = j + 1 + r by omega]; exact q4
    · rw [if_neg hl, if_pos rfl]
      refine ⟨0, v, n, by omega, ?_, rfl, hw⟩
      rcases hc.2 hl with c1 | ⟨c1, c2⟩
      · rw [if_pos (show tc p < 48 from c1)]; rfl
      · rw [if_neg (show ¬ tc p < 48 from c1), if_pos (show (57 : Int32) < tc p from c2)]; rfl
/-- the token now, on both sides: where the next begins, its sort, place, number, word -/
def tkR (e p : Nat) (c m : (Int32 × Int32 × Int32 × Int32 × Int64)) : Prop :=
  ∃ q, p ≤ e ∧ q ≤ e ∧ c.1 = nI p ∧ m.1 = nI p ∧ c.2.2.1 = nI q ∧ m.2.2.1 = nI q ∧
    ((c.2.1 = 0 ∧ m.2.1 = 1) ∨ (∃ l, lv l ∧ l.length ≤ 8 ∧ c.2.1 = 1 ∧ m.2.1 = 2 ∧ c.2.2.2.2 = lN (cw l) ∧ m.2.2.2.2 = lN (mw l)) ∨ (∃ x, x ≤ 999 ∧ c.2.1 = 2 ∧ m.2.1 = 3 ∧ c.2.2.2.1 = nI x ∧ m.2.2.2.1 = nI x) ∨ (c.2.1 = 3 ∧ m.2.1 = 4) ∨ (c.2.1 = 4 ∧ m.2.1 = 0))
/-- the next token: the same on both sides; a part's sign is a byte -/
theorem j_next {e : Nat} (he : e ≤ 900) {tc tm : (Nat → Int32)} {bt : Nat → Nat} (h : tpB e tc tm bt) {p : Nat} (hp : p ≤ e) (s pl v : Int32) (cd : Int64) (s2 pl2 n : Int32) (wd : Int64) (hs2 : ¬ s2 = 5) :
    ∃ p' c m, f_X5_next tc (nI e) (nI p) s pl v cd = some c ∧ f_X12_goesOn tm (nI e) (nI p) s2 pl2 n wd = some m ∧ tkR e p' c m ∧ p ≤ p' ∧ (c.2.1 = 3 ∨ c.2.1 = 1 → p < p') := by
  unfold f_X5_next f_X12_goesOn
  rw [if_neg hs2]
  obtain ⟨q, q1, q2, q3, q4⟩ := t_blank he h (K := fun a => f_X5_next_B38 tc (nI e) a s pl v cd) (K2 := fun t_spot_9 =>
      (f_X12_byteAt t_spot_9 tm (nI e)).bind fun o5 => (if o5 = ((-1)) then
        some (t_spot_9, 1, t_spot_9, n, wd)
      else
        (f_X12_isLetter o5).bind fun o7 => (if o7 = 0 then
          (f_X12_isDigit o5).bind fun o9 => (if o9 = 0 then
            (if o5 = 59 then
              nm (t_spot_9 + 1) fun z12 => some (z12, 4, t_spot_9, n, wd)
            else
              some (t_spot_9, 0, t_spot_9, n, wd))
          else
            f_X12_goesOn_L173 (fun x2_173 t_spot_173 t_number_173 =>
              (if 3 < x2_173 then
                some (t_spot_173, 0, t_spot_9, t_number_173, wd)
              else
                some (t_spot_173, 3, t_spot_9, t_number_173, wd))) tm (nI e) 2000 0 t_spot_9 0)
        else
          f_X12_goesOn_L84 (fun x2_84 t_spot_84 t_word_84 =>
            (if 8 < x2_84 then
              some (t_spot_84, 0, t_spot_9, n, t_word_84)
            else
              some (t_spot_84, 2, t_spot_9, n, t_word_84))) tm (nI e) 2000 0 t_spot_9 0))) (e - p) p 2000 2000 (by omega) (by omega) (by omega)
  rw [q3]
  have em := q4
  refine (fun hh => ?_) em
  clear q4 em
  rw [show ∀ (A B : Option (Int32 × Int32 × Int32 × Int32 × Int64)), A = B → (∃ p' c m, f_X5_next_B38 tc (nI e) (nI q) s pl v cd = some c ∧ A = some m ∧ tkR e p' c m ∧ p ≤ p' ∧ (c.2.1 = 3 ∨ c.2.1 = 1 → p < p')) = (∃ p' c m, f_X5_next_B38 tc (nI e) (nI q) s pl v cd = some c ∧ B = some m ∧ tkR e p' c m ∧ p ≤ p' ∧ (c.2.1 = 3 ∨ c.2.1 = 1 → p < p')) from fun A B hAB => by rw [hAB]]
  case a => exact hh
  (try dsimp only)
  clear hh q3
  unfold f_X5_next_B38
  rw [m_byteAt he h q2, bind_some']
  by_cases hqe : q < e
  · have hb := (h q hqe).2.1
    rw [if_pos (nI_lt hqe (by omega)), if_pos hqe, inb_nI (show q < 900 by omega) (by decide), gd_true, gd_true, gd_true, nI_clamp (show q < 2 ^ 31 by omega), if_neg (show ¬ nI (bt q) = -1 by
      rw [i32_eq, nI_toInt (by omega)]
      have : (-1 : Int32).toInt = -1 := rfl
      omega), m_isLetter _ hb, m_isDigit _ hb, bind_some', bind_some']
    have hc59 := c_eq h hqe (c := 59) (by decide)
    have hcl := c_in h hqe (a := 97) (b := 122) (by decide) (by decide)
    have hcd := c_in h hqe (a := 48) (b := 57) (by decide) (by decide)
    by_cases h59 : bt q = 59
    · rw [if_pos (show tc q = 59 from hc59.mpr h59), if_neg (show ¬ (97 ≤ bt q ∧ bt q ≤ 122) by omega), if_pos rfl, if_neg (show ¬ (48 ≤ bt q ∧ bt q ≤ 57) by omega), if_pos rfl, if_pos (show nI (bt q) = 59 by rw [h59]; rfl), nm_eq, nm_eq, nI_1]
      exact ⟨q + 1, _, _, rfl, rfl, ⟨q, by omega, q2, rfl, rfl, rfl, rfl, Or.inr (Or.inr (Or.inr (Or.inl ⟨rfl, rfl⟩)))⟩, by omega, fun _ => by omega⟩
    · rw [if_neg (show ¬ tc q = 59 from fun z => h59 (hc59.mp z))]
      by_cases hl : 97 ≤ bt q ∧ bt q ≤ 122
      · obtain ⟨c1, c2, c3⟩ := hcl.1 hl
        rw [if_neg (show ¬ tc q < 97 from c1), if_neg (show ¬ (122 : Int32) < tc q from c2), if_pos hl, if_neg one_ne]
        unfold f_X5_scanWord
        obtain ⟨r, cd', wd', r1, r2, r3, r4, r5⟩ := t_word he h (K := fun a c => f_X5_scanWord_B79 a s (nI q) c) (K2 := fun x2_84 t_spot_84 t_word_84 =>
            (if 8 < x2_84 then
              some (t_spot_84, 0, nI q, n, t_word_84)
            else
              some (t_spot_84, 2, nI q, n, t_word_84))) (e - q) q 0 2000 2000 0 0 (by omega) (by omega) (by omega) (by omega) (fun _ => ⟨[], lv_nil, rfl, rfl, rfl⟩)
        rw [r2, show f_X12_goesOn_L84 _ tm (nI e) 2000 0 (nI q) 0 = _ from r3]
        unfold f_X5_scanWord_B79
        rw [nI_sub (by omega), show q + r - q = r by omega, Nat.zero_add]
        rw [Nat.zero_add] at r4
        by_cases h8 : 8 < r
        · rw [if_pos (show (8 : Int32) < nI r from nI_lt (a := 8) h8 (by omega)), if_pos (show (8 : Int32) < nI r from nI_lt (a := 8) h8 (by omega))]
          exact ⟨q + r, _, _, rfl, rfl, ⟨q, r1, q2, rfl, rfl, rfl, rfl, Or.inr (Or.inr (Or.inr (Or.inr ⟨rfl, rfl⟩)))⟩, by omega, fun z => absurd z (by show ¬ ((4 : Int32) = 3 ∨ (4 : Int32) = 1); decide)⟩
        · obtain ⟨l, l1, l2, l3, l4⟩ := r4 (by omega)
          rw [if_neg (show ¬ (8 : Int32) < nI r from nI_nlt (a := 8) (by omega) (by decide)), if_neg (show ¬ (8 : Int32) < nI r from nI_nlt (a := 8) (by omega) (by decide))]
          exact ⟨q + r, _, _, rfl, rfl, ⟨q, r1, q2, rfl, rfl, rfl, rfl, Or.inr (Or.inl ⟨l, l1, by omega, rfl, rfl, l3, l4⟩)⟩, by omega, fun _ => by have := r5 hqe hl; omega⟩
      · have hB : ∀ X : Option (Int32 × Int32 × Int32 × Int32 × Int64), (if tc q < 97 then f_X5_next_B132 tc (nI e) (nI q) s (nI q) v cd else if 122 < tc q then f_X5_next_B132 tc (nI e) (nI q) s (nI q) v cd else X) = f_X5_next_B132 tc (nI e) (nI q) s (nI q) v cd := by
          intro X
          rcases hcl.2 hl with c1 | ⟨c1, c2⟩
          · rw [if_pos (show tc q < 97 from c1)]
          · rw [if_neg (show ¬ tc q < 97 from c1), if_pos (show (122 : Int32) < tc q from c2)]
        rw [hB, if_neg hl, if_pos rfl]
        unfold f_X5_next_B132
        rw [inb_nI (show q < 900 by omega) (by decide), gd_true, gd_true, nI_clamp (show q < 2 ^ 31 by omega)]
        by_cases hd : 48 ≤ bt q ∧ bt q ≤ 57
        · obtain ⟨c1, c2, c3⟩ := hcd.1 hd
          rw [if_neg (show ¬ tc q < 48 from c1), if_neg (show ¬ (57 : Int32) < tc q from c2), if_pos hd, if_neg one_ne]
          unfold f_X5_scanWhole
          obtain ⟨r, v', n', r1, r2, r3, r4⟩ := t_whole he h (K := fun a c => f_X5_scanWhole_B81 a s (nI q) c) (K2 := fun x2_173 t_spot_173 t_number_173 =>
              (if 3 < x2_173 then
                some (t_spot_173, 0, nI q, t_number_173, wd)
              else
                some (t_spot_173, 3, nI q, t_number_173, wd))) (e - q) q 0 2000 2000 0 0 (by omega) (by omega) (by omega) (by omega) (fun _ => ⟨0, by decide, rfl, rfl⟩)
          rw [r2, show f_X12_goesOn_L173 _ tm (nI e) 2000 0 (nI q) 0 = _ from r3]
          unfold f_X5_scanWhole_B81
          rw [nI_sub (by omega), show q + r - q = r by omega, Nat.zero_add]
          rw [Nat.zero_add] at r4
          by_cases h8 : 3 < r
          · rw [if_pos (show (3 : Int32) < nI r from nI_lt (a := 3) h8 (by omega)), if_pos (show (3 : Int32) < nI r from nI_lt (a := 3) h8 (by omega))]
            exact ⟨q + r, _, _, rfl, rfl, ⟨q, r1, q2, rfl, rfl, rfl, rfl, Or.inr (Or.inr (Or.inr (Or.inr ⟨rfl, rfl⟩)))⟩, by omega, fun z => absurd z (by show ¬ ((4 : Int32) = 3 ∨ (4 : Int32) = 1); decide)⟩
          · obtain ⟨x, l1, l2, l3⟩ := r4 (by omega)
            have hx : 10 ^ r ≤ 10 ^ 3 := Nat.pow_le_pow_right (by decide) (by omega)
            rw [if_neg (show ¬ (3 : Int32) < nI r from nI_nlt (a := 3) (by omega) (by decide)), if_neg (show ¬ (3 : Int32) < nI r from nI_nlt (a := 3) (by omega) (by decide))]
            exact ⟨q + r, _, _, rfl, rfl, ⟨q, r1, q2, rfl, rfl, rfl, rfl, Or.inr (Or.inr (Or.inl ⟨x, by omega, rfl, rfl, l2, l3⟩))⟩, by omega, fun z => absurd z (by show ¬ ((2 : Int32) = 3 ∨ (2 : Int32) = 1); decide)⟩
        · rw [if_neg hd, if_pos rfl, if_neg (show ¬ nI (bt q) = 59 by rw [show (59 : Int32) = nI 59 from rfl, nI_eq (by omega) (by decide)]; exact h59)]
          have hD : ∀ X : Option (Int32 × Int32 × Int32 × Int32 × Int64), (if tc q < 48 then some (nI q, 4, nI q, v, cd) else if 57 < tc q then some (nI q, 4, nI q, v, cd) else X) = some (nI q, 4, nI q, v, cd) := by
            intro X
            rcases hcd.2 hd with c1 | ⟨c1, c2⟩
            · rw [if_pos (show tc q < 48 from c1)]
            · rw [if_neg (show ¬ tc q < 48 from c1), if_pos (show (57 : Int32) < tc q from c2)]
          rw [hD]
          exact ⟨q, _, _, rfl, rfl, ⟨q, q2, q2, rfl, rfl, rfl, rfl, Or.inr (Or.inr (Or.inr (Or.inr ⟨rfl, rfl⟩)))⟩, by omega, fun z => absurd z (by show ¬ ((4 : Int32) = 3 ∨ (4 : Int32) = 1); decide)⟩
  · rw [if_neg (nI_nlt (by omega) (by omega)), if_neg hqe, if_pos rfl]
    exact ⟨q, _, _, rfl, rfl, ⟨q, q2, q2, rfl, rfl, rfl, rfl, Or.inl ⟨rfl, rfl⟩⟩, q1, fun z => absurd z (by show ¬ ((0 : Int32) = 3 ∨ (0 : Int32) = 1); decide)⟩
