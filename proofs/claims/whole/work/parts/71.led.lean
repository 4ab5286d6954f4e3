/-! led: the i-th laced rope, or none -/
noncomputable def f_led_L (p1 la ro : Int32) : Nat → Int32 → Int32 → Option (Option Int32)
  | 0, _, _ => none
  | n + 1, x2, x3 => if ro ≤ x3 then some none else (f_X10_isIn la x3).bind fun o => if o = 0 then f_led_L p1 la ro n x2 (x3 + 1) else if x2 = p1 then some (some x3) else f_led_L p1 la ro n (x2 + 1) (x3 + 1)
theorem led_go {k L : Nat} (hk : k ≤ 7) (hL : L < 2 ^ 31) {v : (Nat → Int32)} {p1 : Int32} (hv : ∀ j, j < k → (L.testBit j = true → v j = 1) ∧ (¬ L.testBit j = true → ¬ v j = 1)) : ∀ (d j : Nat) (f1 f2 : Nat) (x2 : Int32), j + d = k → d < f1 → d < f2 →
    ∃ o, f_led_L p1 (nI L) (nI k) f1 x2 (nI j) = some o ∧ f_X12_led_L9 (some (0, 1)) p1 0 (nI k) v f2 x2 (nI j) = some (match o with | none => (0, 1) | some x => (x, 0)) := by
  intro d
  induction d with
  | zero =>
    intro j f1 f2 x2 hj h1 h2
    obtain ⟨f1, rfl⟩ : ∃ g, f1 = g + 1 := ⟨f1 - 1, by omega⟩
    obtain ⟨f2, rfl⟩ : ∃ g, f2 = g + 1 := ⟨f2 - 1, by omega⟩
    have hle : nI k ≤ nI j := nI_le (by omega) (by omega)
    refine ⟨none, ?_, ?_⟩
    · rw [f_led_L, if_pos hle]
    · rw [f_X12_led_L9, if_pos hle]
  | succ d ih =>
    intro j f1 f2 x2 hj h1 h2
    obtain ⟨f1, rfl⟩ : ∃ g, f1 = g + 1 := ⟨f1 - 1, by omega⟩
    obtain ⟨f2, rfl⟩ : ∃ g, f2 = g + 1 := ⟨f2 - 1, by omega⟩
    have hle : ¬ nI k ≤ nI j := nI_ge (by omega) (by omega)
    have e0 : (0 : Int32) + nI j = nI j := Int32.zero_add _
    rw [f_led_L, f_X12_led_L9, if_neg hle, if_neg hle, isIn_nI hL (by omega), bind_some', e0, inb_nI (show j < 16 by omega) (by decide), gd_true, nI_clamp (show j < 2 ^ 31 by omega), nI_1]
    by_cases hb : L.testBit j = true
    · rw [if_pos hb, if_neg one_ne, if_pos ((hv j (by omega)).1 hb)]
      by_cases hx : x2 = p1
      · rw [if_pos hx, if_pos hx]
        exact ⟨some (nI j), rfl, rfl⟩
      · rw [if_neg hx, if_neg hx]
        exact ih (j + 1) f1 f2 (x2 + 1) (by omega) (by omega) (by omega)
    · rw [if_neg hb, if_pos rfl, if_neg ((hv j (by omega)).2 hb)]
      exact ih (j + 1) f1 f2 x2 (by omega) (by omega) (by omega)
/-- both sides of led, a river told -/
theorem j_led {R : Nat → Nat → Nat} (hk : R 0 1 ≤ 7) {cap : Nat} {l b f s : Int32} {w v : (Nat → Int32)} (h : nowE R cap l b f s w v) (p1 th : Int32) :
    ∃ o, f_led_L p1 l (nI (R 0 1)) 2000 0 0 = some o ∧ f_X12_led p1 th (nI (R 0 1)) v = some (match o with | none => (0, 1) | some x => (x, 0)) := by
  obtain ⟨q, ⟨rfl, -⟩, hv, hs⟩ := h
  have h1 : q.1 < 2 ^ R 0 1 := hs.1.1
  have h2 : 2 ^ R 0 1 ≤ 2 ^ 7 := Nat.pow_le_pow_right (by decide) hk
  unfold f_X12_led
  refine led_go hk (by omega) (fun j hj => ⟨fun hb => ?_, fun hb => ?_⟩) (R 0 1) 0 2000 2000 0 (by omega) (by omega) (by omega)
  · rw [hv.1 j hj, if_pos hb]; rfl
  · rw [hv.1 j hj, if_neg hb]; split <;> decide
/-- .. and with none -/
theorem n_led (p1 la : Int32) : f_led_L p1 la 0 2000 0 0 = some none := by
  rw [f_led_L, if_pos (show (0 : Int32) ≤ 0 by decide)]
