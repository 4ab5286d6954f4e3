/-! the greatest flow that spills nowhere -/
def mn (R : Nat → Nat → Nat) (W : Nat → Nat) : Nat → Nat
  | 0 => 999
  | i + 1 => if (R 3 i + 1) * W i - 1 < mn R W i then (R 3 i + 1) * W i - 1 else mn R W i
theorem mn_iff {R : Nat → Nat → Nat} {W : Nat → Nat} {y : Nat} : ∀ n, (∀ r, r < n → 1 ≤ W r) → (y ≤ mn R W n ↔ y ≤ 999 ∧ ∀ r, r < n → y < (R 3 r + 1) * W r)
  | 0, _ => by simp [mn]
  | n + 1, h => by
    have ih := mn_iff (R := R) (W := W) (y := y) n (fun r hr => h r (by omega))
    have hp : 1 ≤ (R 3 n + 1) * W n := Nat.mul_le_mul (show 1 ≤ R 3 n + 1 by omega) (h n (by omega))
    simp only [mn]
    constructor
    · intro hy
      have h1 : y ≤ mn R W n := by split at hy <;> omega
      have h2 : y < (R 3 n + 1) * W n := by split at hy <;> omega
      refine ⟨(ih.mp h1).1, fun r hr => ?_⟩
      by_cases e : r = n
      · rw [e]; exact h2
      · exact (ih.mp h1).2 r (by omega)
    · intro hy
      have h1 := ih.mpr ⟨hy.1, fun r hr => hy.2 r (by omega)⟩
      have h2 := hy.2 n (by omega)
      split <;> omega
theorem mn_le (R : Nat → Nat → Nat) (W : Nat → Nat) : ∀ n, mn R W n ≤ 999
  | 0 => Nat.le_refl _
  | n + 1 => by
    have := mn_le R W n
    simp only [mn]
    split <;> omega
theorem s_safest {R : Nat → Nat → Nat} (hR : rvOK R) {W : Nat → Nat} (hW : ∀ r, r < R 0 0 → 1 ≤ W r ∧ W r ≤ 40) {w bank : Nat → Int32} (hw : rw_ (R 0 0) w W) (hb : rw_ (R 0 0) bank (R 3)) : f_X8_safest w (nI (R 0 0)) bank = some (nI (mn R W (R 0 0))) := by
  have hn := hR.1.2.1
  unfold f_X8_safest
  refine (iter (F := f_X8_safest_L6 _ w (nI (R 0 0)) bank) (k := fun x => some x) (g := fun i => nI (mn R W i)) (a := 0) (N := R 0 0) (Nat.zero_le _) (fun m x => ?_) (fun m i _ hi => ?_) (show R 0 0 < 2000 by omega)).trans ?_
  · rw [f_X8_safest_L6, if_pos (nI_le (by omega) (by omega))]
  · have hWi := hW i hi
    have h3 := (hR.2.1 i hi).2.2.2.2.1
    have hm := mn_le R W i
    have hmul : (R 3 i + 1) * W i ≤ 100 * 40 := Nat.mul_le_mul (by omega) hWi.2
    have hpos : 1 ≤ (R 3 i + 1) * W i := Nat.mul_le_mul (show 1 ≤ R 3 i + 1 by omega) hWi.1
    rw [f_X8_safest_L6, if_neg (nI_ge (by omega) (by omega))]
    simp only [inb_nI (show i < 6 by omega) (by decide), gd_true, nm_eq, nI_clamp (show i < 2 ^ 31 by omega), hw i hi, hb i hi, nI_1, pk_mul]
    rw [show (1 : Int32) = nI 1 from rfl, nI_sub hpos]
    simp only [mn]
    by_cases h : (R 3 i + 1) * W i - 1 < mn R W i
    · rw [if_pos (nI_lt h (by omega)), if_pos h]
    · rw [if_neg (nI_nlt (by omega) (by omega)), if_neg h]
  · rfl
theorem bs_zero {p : Nat → Bool} {n : Nat} : bs p n = 0 ↔ ∀ r, r < n → p r = false := by
  constructor
  · intro h r hr
    have := bs_test p n r
    rw [h, decide_eq_true hr, Bool.true_and, Nat.zero_testBit] at this
    exact this.symm
  · intro h
    rw [bs_congr (q := fun _ => false) h]
    clear h
    induction n with
    | zero => rfl
    | succ n ih => simp only [bs]; rw [ih]; rfl
theorem wt_dry {R : Nat → Nat → Nat} {W : Nat → Nat} {y : Nat} : ∀ i, (∀ r, r < i → sl R W y r = 0) → wt R W y i = y
  | 0, _ => rfl
  | i + 1, h => by
    have ih := wt_dry (R := R) (W := W) (y := y) i (fun r hr => h r (by omega))
    have h0 : sp1 R W i (wt R W y i) = 0 := h i (by omega)
    simp only [wt, lo1, h0]
    split <;> omega
theorem dry_iff {R : Nat → Nat → Nat} {W : Nat → Nat} {n y : Nat} (hW : ∀ r, r < n → 1 ≤ W r) (hy : y ≤ 999) : bs (fun r => decide (0 < sl R W y r)) n = 0 ↔ y ≤ mn R W n := by
  rw [bs_zero, mn_iff n hW]
  constructor
  · intro h
    refine ⟨hy, fun r hr => ?_⟩
    have hs : ∀ q, q < n → sl R W y q = 0 := fun q hq => by
      have := h q hq
      have := of_decide_eq_false this
      omega
    have e := wt_dry (R := R) (W := W) (y := y) r (fun q hq => hs q (by omega))
    have hp := sl_pos R W (y := y) (r := r) (hW r hr)
    rw [hs r hr] at hp
    have h2 := of_decide_eq_false hp.symm
    unfold dp at h2
    rw [e] at h2
    have h3 : y / W r < R 3 r + 1 := by omega
    exact (Nat.div_lt_iff_lt_mul (by have := hW r hr; omega)).mp h3
  · intro h r hr
    rw [sl_pos R W (hW r hr)]
    have := dp_small R W (y := y) (r := r) (b := R 3 r) (hW r hr) (h.2 r hr)
    exact decide_eq_false (by omega)
theorem nI_m1 {y : Nat} (h : 1 ≤ y) : nI y + (-1) = nI (y - 1) := by
  rw [show y = (y - 1) + 1 by omega, ← nI_add, show y - 1 + 1 - 1 = y - 1 by omega, show nI 1 = (1 : Int32) from rfl]
  generalize nI (y - 1) = x
  apply Int32.toBitVec_inj.mp; simp only [Int32.toBitVec_add, show (1 : Int32).toBitVec = 1#32 from rfl, show (-1 : Int32).toBitVec = 4294967295#32 from rfl]; bv_omega
theorem L_safeFlow {R : Nat → Nat → Nat} (hR : rvOK R) {L U f sd : Nat} {V : Nat → Nat} (hL : L < 2 ^ R 0 1) {kind wide bank at_ pulls v : Nat → Int32} (T : tR R kind wide bank at_ pulls) (hv : vR (R 0 1) v L U f sd V) {K : Int32 → Int32 → (Nat → Int32) → (Nat → Int32) → (Nat → Int32) → (Nat → Int32) → Int32 → Option (Int32 × Int32 × Int32 × Int32 × (Nat → Int32) × (Nat → Int32) × (Nat → Int32) × (Nat → Int32) × Int32)} (hM : 1 ≤ mn R (wN R L) (R 0 0)) :
    ∀ (y fuel : Nat) (tr wh : Int32) (wi wa de sp : Nat → Int32) (be : Int32), y ≤ 999 → y < fuel → mn R (wN R L) (R 0 0) ≤ y → mA (f_X12_safeFlow_L22 K 0 (nI (R 0 0)) (nI (R 0 1)) kind wide bank at_ pulls v fuel (nI y) tr wh wi wa de sp be) (nI (mn R (wN R L) (R 0 0))) 0 := by
  have hn := hR.1.2.1
  have hL31 := pow_k hR.1.2.2.1 hL
  intro y
  induction y with
  | zero => intro fuel tr wh wi wa de sp be h1 h2 h3; omega
  | succ y ih =>
    intro fuel tr wh wi wa de sp be h1 h2 h3
    obtain ⟨m, rfl⟩ := Nat.exists_eq_succ_of_ne_zero (show fuel ≠ 0 by omega)
    obtain ⟨c1, c2, c3, c4, c5, e, q⟩ := m_runs hR hL31 (show y + 1 < 2 ^ 16 by omega) T.kind T.wide T.bank T.at_ T.pulls wi wa de sp be
    rw [f_X12_safeFlow_L22, if_neg (show ¬ nI (y + 1) ≤ 0 from nI_ge (a := 0) (by omega) (by omega)), vR_laced hR.1.2.2.1 hv hL, bind_some', e, bind_some']
    dsimp only
    rw [m_spilling hn q.2.2.2.1 (fun r _ => Nat.lt_of_le_of_lt (sl_le R (wN R L) (y + 1) r) (by omega)), bind_some']
    have hd := dry_iff (R := R) (W := wN R L) (n := R 0 0) (y := y + 1) (fun r hr => (wN_le hR L hr).1) h1
    have hlt := bs_lt (fun r => decide (0 < sl R (wN R L) (y + 1) r)) (R 0 0)
    have h64 : 2 ^ R 0 0 ≤ 2 ^ 6 := Nat.pow_le_pow_right (by decide) hn
    by_cases h : y + 1 ≤ mn R (wN R L) (R 0 0)
    · rw [hd.mpr h, if_pos (show nI 0 = 0 from rfl), show mn R (wN R L) (R 0 0) = y + 1 by omega]
      exact ⟨_, _, _, _, _, rfl⟩
    · rw [if_neg (by rw [show (0 : Int32) = nI 0 from rfl, nI_eq (by omega) (by decide)]; exact fun z => h (hd.mp z)), nI_m1 (by omega), show y + 1 - 1 = y by omega]
      exact ih m _ _ _ _ _ _ _ (by omega) (by omega) (by omega)
theorem mn_pos {R : Nat → Nat → Nat} (hR : rvOK R) (L : Nat) : 1 ≤ mn R (wN R L) (R 0 0) := by
  rw [mn_iff (R 0 0) (fun r hr => (wN_le hR L hr).1)]
  refine ⟨by decide, fun r hr => ?_⟩
  have h3 := (hR.2.1 r hr).2.2.2.1
  have hw := (wN_le hR L hr).1
  have : 2 * 1 ≤ (R 3 r + 1) * wN R L r := Nat.mul_le_mul (by omega) hw
  omega
theorem s_safeFlow {R : Nat → Nat → Nat} (hR : rvOK R) {L : Nat} (hL : L < 2 ^ R 0 1) {kind wide bank at_ pulls : Nat → Int32} (T : tR R kind wide bank at_ pulls) (w : Nat → Int32) (tr : Int32) : ∃ w', f_X10_safeFlow (nI L) w (nI (R 0 0)) (nI (R 0 1)) wide bank at_ pulls tr = some (nI (mn R (wN R L) (R 0 0)), w', 0) := by
  obtain ⟨w1, e1, q1⟩ := s_narrow hR (pow_k hR.1.2.2.1 hL) (w := w) T.wide T.at_ T.pulls
  refine ⟨w1, ?_⟩
  unfold f_X10_safeFlow
  rw [s_noRiver hR, bind_some', if_pos rfl, e1, bind_some', s_safest hR (fun r hr => wN_le hR L hr) q1 T.bank]
  rfl
theorem m_safeFlow {R : Nat → Nat → Nat} (hR : rvOK R) {L U f sd : Nat} {V : Nat → Nat} (hL : L < 2 ^ R 0 1) {kind wide bank at_ pulls v : Nat → Int32} (T : tR R kind wide bank at_ pulls) (hv : vR (R 0 1) v L U f sd V) (th tr wh : Int32) (wi wa de sp : Nat → Int32) (be : Int32) : mA (f_X12_safeFlow th tr wh (nI (R 0 0)) (nI (R 0 1)) kind wide bank at_ pulls v wi wa de sp be) (nI (mn R (wN R L) (R 0 0))) 0 := by
  unfold f_X12_safeFlow
  exact L_safeFlow hR hL T hv (mn_pos hR L) 999 2000 _ _ _ _ _ _ _ (by omega) (by omega) (mn_le R (wN R L) (R 0 0))
