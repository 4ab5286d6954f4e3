/-! loops that gather bits, on both sides -/
theorem gather {β : Type} {F : Nat → Int32 → Int32 → Option β} {k : Int32 → Option β} {p : Nat → Bool} {N : Nat} (h0 : ∀ m acc, F (m + 1) acc (nI N) = k acc) (h1 : ∀ m i, i < N → F (m + 1) (nI (bs p i)) (nI i) = F m (nI (bs p (i + 1))) (nI (i + 1))) {fuel : Nat} (hf : N < fuel) : F fuel 0 0 = k (nI (bs p N)) := by
  have key : ∀ (d i fuel : Nat), i + d = N → d < fuel → F fuel (nI (bs p i)) (nI i) = k (nI (bs p N)) := by
    intro d
    induction d with
    | zero =>
      intro i fuel hi hf
      obtain ⟨m, rfl⟩ := Nat.exists_eq_succ_of_ne_zero (show fuel ≠ 0 by omega)
      have e : i = N := by omega
      subst e
      exact h0 m _
    | succ d ih =>
      intro i fuel hi hf
      obtain ⟨m, rfl⟩ := Nat.exists_eq_succ_of_ne_zero (show fuel ≠ 0 by omega)
      rw [h1 m i (by omega)]
      exact ih (i + 1) m (by omega) (by omega)
  exact key N 0 fuel (by omega) hf
/-- the same for a sum -/
def sm (g : Nat → Nat) : Nat → Nat
  | 0 => 0
  | n + 1 => sm g n + g n
theorem gathers {β : Type} {F : Nat → Int32 → Int32 → Option β} {k : Int32 → Option β} {g : Nat → Nat} {N : Nat} (h0 : ∀ m acc, F (m + 1) acc (nI N) = k acc) (h1 : ∀ m i, i < N → F (m + 1) (nI (sm g i)) (nI i) = F m (nI (sm g (i + 1))) (nI (i + 1))) {fuel : Nat} (hf : N < fuel) : F fuel 0 0 = k (nI (sm g N)) := by
  have key : ∀ (d i fuel : Nat), i + d = N → d < fuel → F fuel (nI (sm g i)) (nI i) = k (nI (sm g N)) := by
    intro d
    induction d with
    | zero =>
      intro i fuel hi hf
      obtain ⟨m, rfl⟩ := Nat.exists_eq_succ_of_ne_zero (show fuel ≠ 0 by omega)
      have e : i = N := by omega
      subst e
      exact h0 m _
    | succ d ih =>
      intro i fuel hi hf
      obtain ⟨m, rfl⟩ := Nat.exists_eq_succ_of_ne_zero (show fuel ≠ 0 by omega)
      rw [h1 m i (by omega)]
      exact ih (i + 1) m (by omega) (by omega)
  exact key N 0 fuel (by omega) hf
theorem hsum_sm (R : Nat → Nat → Nat) (W : Nat → Nat) (f : Nat) : ∀ n, hsum R W f n = sm (hmr R W f) n
  | 0 => rfl
  | n + 1 => by simp only [hsum, sm, hsum_sm R W f n]
theorem bs_in {p : Nat → Bool} {i : Nat} (hi : i < 31) (h : p i = true) : nI (bs p i) ||| ((1 : Int32) <<< (nI i &&& 31)) = nI (bs p (i + 1)) := by
  rw [bs_step p hi]; simp only [bs, h, if_true]
theorem bs_out {p : Nat → Bool} {i : Nat} (h : p i = false) : nI (bs p i) = nI (bs p (i + 1)) := by
  simp only [bs, h]; rfl
theorem bs_out0 {p : Nat → Bool} {i : Nat} (h : p i = false) : nI (bs p i) ||| 0 = nI (bs p (i + 1)) := by
  rw [Int32.or_zero]; exact bs_out h
/-- out of law -/
def lawB (t : Nat) (W : Nat → Nat) (r : Nat) : Bool := decide (t < W r)
theorem s_tooWide {n t : Nat} (hn : n ≤ 6) (ht : t < 2 ^ 31) {w : Nat → Int32} {W : Nat → Nat} (hw : rw_ n w W) (hW : ∀ r, r < n → W r ≤ 40) : f_X8_tooWide w (nI t) (nI n) = some (nI (bs (lawB t W) n)) := by
  unfold f_X8_tooWide
  refine gather (F := f_X8_tooWide_L4 (fun x => some x) w (nI t) (nI n)) (k := fun x => some x) ?_ ?_ (by omega)
  · intro m acc; rw [f_X8_tooWide_L4, if_pos (nI_le (by omega) (by omega))]
  · intro m i hi
    have h40 := hW i hi
    rw [f_X8_tooWide_L4, if_neg (nI_ge (by omega) (by omega))]
    simp only [inb_nI (show i < 6 by omega) (by decide), gd_true, nm_eq, nI_clamp (show i < 2 ^ 31 by omega), hw i hi, nI_1]
    by_cases h : W i ≤ t
    · rw [if_pos (nI_le h ht), bs_out (p := lawB t W) (by simp [lawB]; omega)]
    · rw [if_neg (nI_ge (by omega) (by omega)), bs_in (by omega) (by simp [lawB]; omega)]
theorem m_unlawful {n t : Nat} (hn : n ≤ 6) (ht : t < 2 ^ 31) {w : Nat → Int32} {W : Nat → Nat} (hw : rw_ n w W) (hW : ∀ r, r < n → W r ≤ 40) : f_X12_unlawful (nI t) (nI n) w = some (nI (bs (lawB t W) n)) := by
  unfold f_X12_unlawful
  refine gather (F := f_X12_unlawful_L4 (fun x => some x) (nI t) (nI n) w) (k := fun x => some x) ?_ ?_ (by omega)
  · intro m acc; rw [f_X12_unlawful_L4, if_pos (nI_le (by omega) (by omega))]
  · intro m i hi
    have h40 := hW i hi
    rw [f_X12_unlawful_L4, if_neg (nI_ge (by omega) (by omega))]
    simp only [inb_nI (show i < 6 by omega) (by decide), gd_true, nm_eq, nI_clamp (show i < 2 ^ 31 by omega), hw i hi, nI_1]
    by_cases h : W i ≤ t
    · rw [if_pos (nI_le h ht), bs_out0 (p := lawB t W) (by simp [lawB]; omega)]
    · rw [if_neg (nI_ge (by omega) (by omega)), bs_in (by omega) (by simp [lawB]; omega)]
/-- spilling -/
theorem m_spilling {n : Nat} (hn : n ≤ 6) {s : Nat → Int32} {S : Nat → Nat} (hs : rw_ n s S) (hS : ∀ r, r < n → S r < 2 ^ 31) : f_X12_spilling (nI n) s = some (nI (bs (fun r => decide (0 < S r)) n)) := by
  unfold f_X12_spilling
  refine gather (F := f_X12_spilling_L4 (fun x => some x) (nI n) s) (k := fun x => some x) ?_ ?_ (by omega)
  · intro m acc; rw [f_X12_spilling_L4, if_pos (nI_le (by omega) (by omega))]
  · intro m i hi
    have h40 := hS i hi
    rw [f_X12_spilling_L4, if_neg (nI_ge (by omega) (by omega))]
    simp only [inb_nI (show i < 6 by omega) (by decide), gd_true, nm_eq, nI_clamp (show i < 2 ^ 31 by omega), hs i hi, nI_1]
    by_cases h : 0 < S i
    · rw [if_neg (show ¬ nI (S i) ≤ 0 from nI_ge (a := 0) h h40), bs_in (by omega) (by simp; omega)]
    · rw [if_pos (show nI (S i) ≤ 0 from nI_le (b := 0) (by omega) (by decide)), bs_out0 (p := fun r => decide (0 < S r)) (by simp; omega)]
/-- harm -/
theorem m_harmAt {n : Nat} (hn : n ≤ 6) {kind s : Nat → Int32} {K S : Nat → Nat} (hk : rw_ n kind K) (hs : rw_ n s S) {i : Nat} (hi : i < n) (hK : K i ≤ 3) (hS : S i < 2 ^ 20) : f_X12_harmAt (nI i) kind s = some (nI (h1 (K i) (S i))) := by
  unfold f_X12_harmAt
  simp only [inb_nI (show i < 6 by omega) (by decide), gd_true, nm_eq, nI_clamp (show i < 2 ^ 31 by omega), hk i hi, hs i hi]
  unfold h1
  rw [show (1 : Int32) = nI 1 from rfl, show (2 : Int32) = nI 2 from rfl, show (3 : Int32) = nI 3 from rfl, show (20 : Int32) = nI 20 from rfl]
  simp only [nI_eq (show K i < 2 ^ 31 by omega) (show 1 < 2 ^ 31 by decide), nI_eq (show K i < 2 ^ 31 by omega) (show 2 < 2 ^ 31 by decide), nI_eq (show K i < 2 ^ 31 by omega) (show 3 < 2 ^ 31 by decide)]
  by_cases a1 : K i = 1
  · rw [if_pos a1, if_pos a1]; rfl
  · rw [if_neg a1, if_neg a1]
    by_cases a2 : K i = 2
    · rw [if_pos a2, if_pos a2, pk_mul]
    · rw [if_neg a2, if_neg a2]
      by_cases a3 : K i = 3
      · rw [if_pos a3, if_pos a3]
        by_cases h : S i = 0
        · rw [if_pos (show nI (S i) ≤ 0 from nI_le (b := 0) (by omega) (by decide)), if_pos h]; rfl
        · rw [if_neg (show ¬ nI (S i) ≤ 0 from nI_ge (a := 0) (by omega) (by omega)), if_neg h, nI_add]
      · rw [if_neg a3, if_neg a3]
theorem m_allHarm {n : Nat} (hn : n ≤ 6) {kind s : Nat → Int32} {K S : Nat → Nat} (hk : rw_ n kind K) (hs : rw_ n s S) (hK : ∀ r, r < n → K r ≤ 3) (hS : ∀ r, r < n → S r < 2 ^ 20) : f_X12_allHarm (nI n) kind s = some (nI (sm (fun r => h1 (K r) (S r)) n)) := by
  unfold f_X12_allHarm
  refine gathers (F := f_X12_allHarm_L4 (fun x => some x) (nI n) kind s) (k := fun x => some x) ?_ ?_ (by omega)
  · intro m acc; rw [f_X12_allHarm_L4, if_pos (nI_le (by omega) (by omega))]
  · intro m i hi
    rw [f_X12_allHarm_L4, if_neg (nI_ge (by omega) (by omega)), m_harmAt hn hk hs hi (hK i hi) (hS i hi), bind_some', nm_eq, nI_add, nI_1]
    rfl
/-- bursting: the laced ones that stand too deep for what they bear less their wear -/
def buB (R : Nat → Nat → Nat) (L : Nat) (D V : Nat → Nat) (j : Nat) : Bool := L.testBit j && decide (R 6 j < V j + D (R 4 j))
theorem s_slack {R : Nat → Nat → Nat} (hR : rvOK R) {D V : Nat → Nat} (hD : ∀ r, r < R 0 0 → D r < 2 ^ 20) (hV : ∀ j, j < R 0 1 → V j < 2 ^ 20) {de at_ be we : Nat → Int32} (hd : rw_ (R 0 0) de D) (ha : rw_ (R 0 1) at_ (R 4)) (hb : rw_ (R 0 1) be (R 6)) (hv : rw_ (R 0 1) we V) {j : Nat} (hj : j < R 0 1) : f_X8_slack (nI j) de at_ be we = some (nI (R 6 j) - nI (V j + D (R 4 j))) := by
  have hk := hR.1.2.2.1
  have hn := hR.1.2.1
  obtain ⟨h4, -, -, -, h6⟩ := hR.2.2.1 j hj
  unfold f_X8_slack
  simp only [inb_nI (show j < 7 by omega) (by decide), gd_true, nI_clamp (show j < 2 ^ 31 by omega), ha j hj, hb j hj, hv j hj, inb_nI (show R 4 j < 6 by omega) (by decide), nI_clamp (show R 4 j < 2 ^ 31 by omega), hd _ h4]
  rw [sub2, nI_add]
theorem s_bursting {R : Nat → Nat → Nat} (hR : rvOK R) {L : Nat} (hL : L < 2 ^ 31) {D V : Nat → Nat} (hD : ∀ r, r < R 0 0 → D r < 2 ^ 20) (hV : ∀ j, j < R 0 1 → V j < 2 ^ 20) {de at_ be we : Nat → Int32} (hd : rw_ (R 0 0) de D) (ha : rw_ (R 0 1) at_ (R 4)) (hb : rw_ (R 0 1) be (R 6)) (hv : rw_ (R 0 1) we V) : f_X8_bursting (nI L) de (nI (R 0 1)) at_ be we = some (nI (bs (buB R L D V) (R 0 1))) := by
  have hk := hR.1.2.2.1
  unfold f_X8_bursting
  refine gather (F := f_X8_bursting_L6 (fun x => some x) (nI L) de (nI (R 0 1)) at_ be we) (k := fun x => some x) ?_ ?_ (by omega)
  · intro m acc; rw [f_X8_bursting_L6, if_pos (nI_le (by omega) (by omega))]
  · intro m j hj
    obtain ⟨h4, -, -, -, h6⟩ := hR.2.2.1 j hj
    have hd4 := hD _ h4
    have hvj := hV j hj
    rw [f_X8_bursting_L6, if_neg (nI_ge (by omega) (by omega)), isIn_nI hL (by omega), bind_some', nI_1]
    by_cases hl : L.testBit j = true
    · rw [if_pos hl, if_neg (by decide), s_slack hR hD hV hd ha hb hv hj, bind_some', nm_eq]
      have h0 : (0 : Int32).toInt = 0 := rfl
      have ht := pk_sub_toInt (a := R 6 j) (b := V j + D (R 4 j)) (by omega) (by omega)
      by_cases h : V j + D (R 4 j) ≤ R 6 j
      · rw [if_pos (by rw [i32_le, h0, ht]; omega), bs_out (p := buB R L D V) (by simp [buB]; intro _; omega)]
      · rw [if_neg (by rw [i32_le, h0, ht]; omega), bs_in (by omega) (by simp [buB, hl]; omega)]
    · rw [if_neg hl, if_pos rfl, bs_out (p := buB R L D V) (by simp [buB, hl])]
theorem m_bursting {R : Nat → Nat → Nat} (hR : rvOK R) {L : Nat} (hL : L < 2 ^ 31) {D V : Nat → Nat} (hD : ∀ r, r < R 0 0 → D r < 2 ^ 20) (hV : ∀ j, j < R 0 1 → V j < 2 ^ 20) {de at_ be a : Nat → Int32} (hd : rw_ (R 0 0) de D) (ha : rw_ (R 0 1) at_ (R 4)) (hb : rw_ (R 0 1) be (R 6)) (hv : ∀ j, j < R 0 1 → a (7 + j) = nI (V j)) : f_X12_bursting (nI L) (nI (R 0 1)) at_ be de a = some (nI (bs (buB R L D V) (R 0 1))) := by
  have hk := hR.1.2.2.1
  have hn := hR.1.2.1
  unfold f_X12_bursting
  refine gather (F := f_X12_bursting_L5 (fun x => some x) (nI L) (nI (R 0 1)) at_ be de a) (k := fun x => some x) ?_ ?_ (by omega)
  · intro m acc; rw [f_X12_bursting_L5, if_pos (nI_le (by omega) (by omega))]
  · intro m j hj
    obtain ⟨h4, -, -, -, h6⟩ := hR.2.2.1 j hj
    have hd4 := hD _ h4
    have hvj := hV j hj
    rw [f_X12_bursting_L5, if_neg (nI_ge (by omega) (by omega)), bit_nI hL (by omega), bind_some', nI_1]
    by_cases hl : L.testBit j = true
    · rw [if_pos hl, if_neg (by decide), show (7 : Int32) + nI j = nI (7 + j) from nI_add 7 j]
      simp only [inb_nI (show j < 7 by omega) (by decide), gd_true, nm_eq, nI_clamp (show j < 2 ^ 31 by omega), ha j hj, hb j hj, inb_nI (show 7 + j < 16 by omega) (by decide), nI_clamp (show 7 + j < 2 ^ 31 by omega), hv j hj, inb_nI (show R 4 j < 6 by omega) (by decide), nI_clamp (show R 4 j < 2 ^ 31 by omega), hd _ h4]
      have ht := pk_sub_toInt (a := R 6 j) (b := V j) (by omega) (by omega)
      have hq := nI_toInt (n := D (R 4 j)) (by omega)
      by_cases h : V j + D (R 4 j) ≤ R 6 j
      · rw [if_pos (by rw [i32_le, hq, ht]; omega), bs_out0 (p := buB R L D V) (by simp [buB]; intro _; omega)]
      · rw [if_neg (by rw [i32_le, hq, ht]; omega), bs_in (by omega) (by simp [buB, hl]; omega)]
    · rw [if_neg hl, if_pos rfl, nm_eq, bs_out0 (p := buB R L D V) (by simp [buB, hl])]
/-- the ropes of a state, of the reference's row -/
theorem m_ropesIn {k : Nat} (hk : k ≤ 7) {a : Nat → Int32} {A : Nat → Nat} (ha : rw_ k a A) (hA : ∀ j, j < k → A j < 2 ^ 31) {x : Nat} (hx : x < 2 ^ 31) : f_X12_ropesIn (nI x) (nI k) a = some (nI (bs (fun j => decide (A j = x)) k)) := by
  unfold f_X12_ropesIn
  refine gather (F := f_X12_ropesIn_L5 (fun x => some x) (nI x) (nI k) a) (k := fun x => some x) ?_ ?_ (by omega)
  · intro m acc; rw [f_X12_ropesIn_L5, if_pos (nI_le (by omega) (by omega))]
  · intro m j hj
    have hAj := hA j hj
    rw [f_X12_ropesIn_L5, if_neg (nI_ge (by omega) (by omega)), show (0 : Int32) + nI j = nI (0 + j) from nI_add 0 j, Nat.zero_add]
    simp only [inb_nI (show j < 16 by omega) (by decide), gd_true, nm_eq, nI_clamp (show j < 2 ^ 31 by omega), ha j hj, nI_1, nI_eq hAj hx]
    by_cases h : A j = x
    · rw [if_pos h, bs_in (by omega) (by simp [h])]
    · rw [if_neg h, bs_out0 (p := fun j => decide (A j = x)) (by simp [h])]
/-- a bit set L is what the row of states says: the laced ones -/
theorem m_lacedNow {k : Nat} (hk : k ≤ 7) {a : Nat → Int32} {A : Nat → Nat} (ha : rw_ k a A) (hA : ∀ j, j < k → A j < 2 ^ 31) {L : Nat} (hL : L < 2 ^ k) (h : ∀ j, j < k → (A j = 1 ↔ L.testBit j = true)) : f_X12_lacedNow (nI k) a = some (nI L) := by
  unfold f_X12_lacedNow
  rw [show (1 : Int32) = nI 1 from rfl, m_ropesIn hk ha hA (by decide), bind_some']
  have e : bs (fun j => decide (A j = 1)) k = L := by
    rw [← bs_self hL]
    refine bs_congr (fun j hj => ?_)
    skip
    have := h j hj
    by_cases h1 : A j = 1 <;> simp [h1] <;> simp_all
  rw [e]
