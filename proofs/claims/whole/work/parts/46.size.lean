/-! size, trouble, where, fault -/
theorem in10 {p : Int32} (h0 : ¬ p = 0) (h1 : ¬ p = 1) (h2 : ¬ p = 2) (h3 : ¬ p = 3) (h4 : ¬ p = 4) (h5 : ¬ p = 5) (h6 : ¬ p = 6) (h7 : ¬ p = 7) (h8 : ¬ p = 8) (h9 : ¬ p = 9) (h10 : ¬ p = 10) : f_X12_in p 0 10 = some 0 := by
  unfold f_X12_in
  by_cases a : p < 0
  · rw [if_pos a]
  · rw [if_neg a]
    obtain ⟨x, hx, rfl⟩ := nat_of a
    by_cases c : x ≤ 10
    · exfalso
      have : x = 0 ∨ x = 1 ∨ x = 2 ∨ x = 3 ∨ x = 4 ∨ x = 5 ∨ x = 6 ∨ x = 7 ∨ x = 8 ∨ x = 9 ∨ x = 10 := by omega
      rcases this with e | e | e | e | e | e | e | e | e | e | e <;> subst e
      · exact h0 rfl
      · exact h1 rfl
      · exact h2 rfl
      · exact h3 rfl
      · exact h4 rfl
      · exact h5 rfl
      · exact h6 rfl
      · exact h7 rfl
      · exact h8 rfl
      · exact h9 rfl
      · exact h10 rfl
    · rw [if_pos (show (10 : Int32) < nI x from nI_lt (a := 10) (by omega) hx)]
theorem j_size {v : Nat → Int32} {fl sd : Int32} (hv14 : v 14 = fl) (hv15 : v 15 = sd) (p th rf tp n k h b m taped acts marks : Int32) :
    ∃ a, f_X10_size p taped fl sd acts marks rf tp n k h b m = some a ∧ f_X12_size p th rf tp n k h b m taped v acts marks = some (a, 0) := by
  by_cases h0 : p = 0
  · subst h0; exact ⟨_, rfl, rfl⟩
  by_cases h1 : p = 1
  · subst h1; exact ⟨_, rfl, rfl⟩
  by_cases h2 : p = 2
  · subst h2; exact ⟨_, rfl, rfl⟩
  by_cases h3 : p = 3
  · subst h3; exact ⟨_, rfl, rfl⟩
  by_cases h4 : p = 4
  · subst h4; exact ⟨_, rfl, rfl⟩
  by_cases h5 : p = 5
  · subst h5; exact ⟨_, rfl, rfl⟩
  by_cases h6 : p = 6
  · subst h6; exact ⟨_, rfl, rfl⟩
  by_cases h7 : p = 7
  · subst h7; exact ⟨_, rfl, by rw [show f_X12_size 7 th rf tp n k h b m taped v acts marks = some (v 14, 0) from rfl, hv14]⟩
  by_cases h8 : p = 8
  · subst h8; exact ⟨_, rfl, by rw [show f_X12_size 8 th rf tp n k h b m taped v acts marks = some (v 15, 0) from rfl, hv15]⟩
  by_cases h9 : p = 9
  · subst h9; exact ⟨_, rfl, rfl⟩
  by_cases h10 : p = 10
  · subst h10; exact ⟨_, rfl, rfl⟩
  by_cases h11 : p = 11
  · subst h11; exact ⟨_, rfl, rfl⟩
  refine ⟨-1, ?_, ?_⟩
  · unfold f_X10_size
    rw [if_neg h0, if_neg h1, if_neg h2, if_neg h3, if_neg h4, if_neg h5, if_neg h6, if_neg h7, if_neg h8, if_neg h9, if_neg h10, if_neg h11]
  · unfold f_X12_size
    rw [if_neg h11, in10 h0 h1 h2 h3 h4 h5 h6 h7 h8 h9 h10]; rfl
theorem j_sizeN (p th taped : Int32) :
    ∃ a, f_X10_size p taped 0 0 0 0 0 0 0 0 0 0 0 = some a ∧ f_X12_sizeN p th taped = some (a, 0) := by
  by_cases h0 : p = 0
  · subst h0; exact ⟨_, rfl, rfl⟩
  by_cases h1 : p = 1
  · subst h1; exact ⟨_, rfl, rfl⟩
  by_cases h2 : p = 2
  · subst h2; exact ⟨_, rfl, rfl⟩
  by_cases h3 : p = 3
  · subst h3; exact ⟨_, rfl, rfl⟩
  by_cases h4 : p = 4
  · subst h4; exact ⟨_, rfl, rfl⟩
  by_cases h5 : p = 5
  · subst h5; exact ⟨_, rfl, rfl⟩
  by_cases h6 : p = 6
  · subst h6; exact ⟨_, rfl, rfl⟩
  by_cases h7 : p = 7
  · subst h7; exact ⟨_, rfl, rfl⟩
  by_cases h8 : p = 8
  · subst h8; exact ⟨_, rfl, rfl⟩
  by_cases h9 : p = 9
  · subst h9; exact ⟨_, rfl, rfl⟩
  by_cases h10 : p = 10
  · subst h10; exact ⟨_, rfl, rfl⟩
  by_cases h11 : p = 11
  · subst h11; exact ⟨_, rfl, rfl⟩
  refine ⟨-1, ?_, ?_⟩
  · unfold f_X10_size
    rw [if_neg h0, if_neg h1, if_neg h2, if_neg h3, if_neg h4, if_neg h5, if_neg h6, if_neg h7, if_neg h8, if_neg h9, if_neg h10, if_neg h11]
  · unfold f_X12_sizeN
    rw [if_neg h11, in10 h0 h1 h2 h3 h4 h5 h6 h7 h8 h9 h10]; rfl
