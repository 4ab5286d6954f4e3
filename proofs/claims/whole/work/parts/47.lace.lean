/-! loops with a state of any shape -/
theorem loopE {σ β : Type} {F : Nat → σ → Option β} {P : Nat → σ → Prop} {a N : Nat} (haN : a ≤ N) (h1 : ∀ m i s, a ≤ i → i < N → P i s → ∃ s', P (i + 1) s' ∧ F (m + 1) s = F m s') {fuel : Nat} {s : σ} (hf : N - a < fuel) (hs : P a s) : ∃ m s', P N s' ∧ F fuel s = F (m + 1) s' := by
  have key : ∀ (d i fuel : Nat) (s : σ), a ≤ i → i + d = N → d < fuel → P i s → ∃ m s', P N s' ∧ F fuel s = F (m + 1) s' := by
    intro d
    induction d with
    | zero =>
      intro i fuel s ha hi hf hs
      obtain ⟨m, rfl⟩ := Nat.exists_eq_succ_of_ne_zero (show fuel ≠ 0 by omega)
      have e : i = N := by omega
      subst e
      exact ⟨m, s, hs, rfl⟩
    | succ d ih =>
      intro i fuel s ha hi hf hs
      obtain ⟨m, rfl⟩ := Nat.exists_eq_succ_of_ne_zero (show fuel ≠ 0 by omega)
      obtain ⟨s', hs', e⟩ := h1 m i s ha (by omega) hs
      obtain ⟨m', s2, h2, e2⟩ := ih (i + 1) m s' (by omega) (by omega) (by omega) hs'
      exact ⟨m', s2, h2, e.trans e2⟩
  exact key (N - a) a fuel s (Nat.le_refl _) (by omega) (by omega) hs
theorem loopK {σ β : Type} {F : Nat → σ → Option β} {P : Nat → σ → Prop} {a N : Nat} {fuel : Nat} {s : σ} {C : Prop} (hC : ∀ m s', P N s' → F fuel s = F (m + 1) s' → C) (haN : a ≤ N) (h1 : ∀ m i s, a ≤ i → i < N → P i s → ∃ s', P (i + 1) s' ∧ F (m + 1) s = F m s') (hf : N - a < fuel) (hs : P a s) : C := by
  obtain ⟨m, s', h, e⟩ := loopE haN h1 hf hs
  exact hC m s' h e
theorem loopX {σ β : Type} {F : Nat → σ → Option β} {P : Nat → σ → Prop} {Q : Option β → Prop} {a N : Nat} (haN : a ≤ N) (h0 : ∀ m s, P N s → Q (F (m + 1) s)) (h1 : ∀ m i s, a ≤ i → i < N → P i s → Q (F (m + 1) s) ∨ ∃ s', P (i + 1) s' ∧ F (m + 1) s = F m s') {fuel : Nat} {s : σ} (hf : N - a < fuel) (hs : P a s) : Q (F fuel s) := by
  have key : ∀ (d i fuel : Nat) (s : σ), a ≤ i → i + d = N → d < fuel → P i s → Q (F fuel s) := by
    intro d
    induction d with
    | zero =>
      intro i fuel s ha hi hf hs
      obtain ⟨m, rfl⟩ := Nat.exists_eq_succ_of_ne_zero (show fuel ≠ 0 by omega)
      have e : i = N := by omega
      subst e
      exact h0 m s hs
    | succ d ih =>
      intro i fuel s ha hi hf hs
      obtain ⟨m, rfl⟩ := Nat.exists_eq_succ_of_ne_zero (show fuel ≠ 0 by omega)
      rcases h1 m i s ha (by omega) hs with h | ⟨s', hs', e⟩
      · exact h
      · have := ih (i + 1) m s' (by omega) (by omega) (by omega) hs'
        rw [show F (Nat.succ m) s = F m s' from e]
        exact this
  exact key (N - a) a fuel s (Nat.le_refl _) (by omega) (by omega) hs
theorem nI_z {x : Nat} (h : x < 2 ^ 31) : nI x = 0 ↔ x = 0 := by
  rw [show (0 : Int32) = nI 0 from rfl]; exact nI_eq h (by decide)
theorem one_ne : ¬ (1 : Int32) = 0 := by decide
/-! lacing -/
def hasL (R : Nat → Nat → Nat) (M r : Nat) : Nat → Bool
  | 0 => false
  | j + 1 => hasL R M r j || (M.testBit j && decide (R 4 j = r))
theorem hasL_mono (R : Nat → Nat → Nat) (M r : Nat) {j : Nat} (h : hasL R M r j = true) : ∀ d, hasL R M r (j + d) = true
  | 0 => h
  | d + 1 => by
    show (hasL R M r (j + d) || _) = true
    rw [hasL_mono R M r h d]; rfl
def lwN (R : Nat → Nat → Nat) (M : Nat) : Nat := sm (fun r => if hasL R M r (R 0 1) = true then wN R M r else 0) (R 0 0)
theorem sm_le {g : Nat → Nat} {b : Nat} : ∀ {n : Nat}, (∀ i, i < n → g i ≤ b) → sm g n ≤ b * n
  | 0, _ => Nat.le_refl _
  | n + 1, h => by
    have h1 := sm_le (g := g) (b := b) (n := n) (fun i hi => h i (by omega))
    have h2 := h n (by omega)
    simp only [sm]
    rw [Nat.mul_succ]
    omega
theorem lwN_le {R : Nat → Nat → Nat} (hR : rvOK R) (M : Nat) : lwN R M ≤ 240 := by
  have hn := hR.1.2.1
  have := sm_le (g := fun r => if hasL R M r (R 0 1) = true then wN R M r else 0) (b := 40) (n := R 0 0) (fun i hi => by
    have := (wN_le hR M hi).2
    split <;> omega)
  unfold lwN
  omega
theorem s_hasLaced {R : Nat → Nat → Nat} (hR : rvOK R) {M : Nat} (hM : M < 2 ^ 31) {at_ : Nat → Int32} (ha : rw_ (R 0 1) at_ (R 4)) {r : Nat} (hr : r < R 0 0) : f_X1_hasLaced (nI M) (nI r) (nI (R 0 1)) at_ = some (if hasL R M r (R 0 1) = true then 1 else 0) := by
  have hk := hR.1.2.2.1
  have hn := hR.1.2.1
  unfold f_X1_hasLaced
  refine loopX (F := f_X1_hasLaced_L2 (some 0) (nI M) (nI r) (nI (R 0 1)) at_) (P := fun j x => x = nI j ∧ hasL R M r j = false) (Q := fun o => o = some (if hasL R M r (R 0 1) = true then 1 else 0)) (a := 0) (N := R 0 1) (Nat.zero_le _) ?_ ?_ (by omega) ⟨rfl, rfl⟩
  · rintro m _ ⟨rfl, h⟩
    rw [f_X1_hasLaced_L2, if_pos (nI_le (by omega) (by omega)), h]; rfl
  · rintro m j _ - hj ⟨rfl, h⟩
    have h4 := (hR.2.2.1 j hj).1
    rw [f_X1_hasLaced_L2, if_neg (nI_ge (by omega) (by omega)), isIn_nI hM (by omega), bind_some', nI_1]
    by_cases hl : M.testBit j = true
    · rw [if_pos hl, if_neg one_ne, inb_nI (show j < 7 by omega) (by decide), gd_true, nI_clamp (show j < 2 ^ 31 by omega), ha j hj]
      by_cases hq : R 4 j = r
      · left
        rw [if_pos (by rw [hq])]
        have h1 : hasL R M r (j + 1) = true := by simp [hasL, hl, hq]
        have h2 := hasL_mono R M r h1 (R 0 1 - (j + 1))
        rw [show j + 1 + (R 0 1 - (j + 1)) = R 0 1 by omega] at h2
        rw [if_pos h2]
      · right
        rw [if_neg (by rw [nI_eq (by omega) (by omega)]; exact hq)]
        exact ⟨_, ⟨rfl, by simp [hasL, h, hq]⟩, rfl⟩
    · right
      rw [if_neg hl, if_pos rfl]
      exact ⟨_, ⟨rfl, by simp [hasL, h, hl]⟩, rfl⟩
theorem s_lacedWidths {R : Nat → Nat → Nat} (hR : rvOK R) {M : Nat} (hM : M < 2 ^ 31) {at_ w : Nat → Int32} (ha : rw_ (R 0 1) at_ (R 4)) (hw : rw_ (R 0 0) w (wN R M)) : f_X1_lacedWidths (nI M) w (nI (R 0 0)) (nI (R 0 1)) at_ = some (nI (lwN R M)) := by
  have hn := hR.1.2.1
  unfold f_X1_lacedWidths
  refine gathers (F := f_X1_lacedWidths_L5 (fun x => some x) (nI M) w (nI (R 0 0)) (nI (R 0 1)) at_) (k := fun x => some x) ?_ ?_ (by omega)
  · intro m acc; rw [f_X1_lacedWidths_L5, if_pos (nI_le (by omega) (by omega))]
  · intro m i hi
    rw [f_X1_lacedWidths_L5, if_neg (nI_ge (by omega) (by omega)), s_hasLaced hR hM ha hi, bind_some', nI_1]
    simp only [sm]
    by_cases h : hasL R M i (R 0 1) = true
    · rw [if_pos h, if_neg one_ne, if_pos h, inb_nI (show i < 6 by omega) (by decide), gd_true, nm_eq, nI_clamp (show i < 2 ^ 31 by omega), hw i hi, nI_add]
    · rw [if_neg h, if_pos rfl, if_neg h]; rfl
/-- the set M may be laced -/
def hlB (R : Nat → Nat → Nat) (f : Nat) (V : Nat → Nat) (M : Nat) : Bool := decide (bs (lawB (R 0 5) (wN R M)) (R 0 0) = 0) && (decide (bs (fun r => decide (0 < sl R (wN R M) f r)) (R 0 0) = 0) && decide (bs (buB R M (dp R (wN R M) f) V) (R 0 1) = 0))
theorem bs6 {p : Nat → Bool} {n : Nat} (hn : n ≤ 7) : bs p n < 2 ^ 31 := pow_k hn (bs_lt p n)
theorem s_holds {R : Nat → Nat → Nat} (hR : rvOK R) {M f : Nat} (hM : M < 2 ^ R 0 1) (hf : f < 2 ^ 16) {V : Nat → Nat} {kind wide bank at_ pulls : Nat → Int32} (T : tR R kind wide bank at_ pulls) {bears wear : Nat → Int32} (hb : rw_ (R 0 1) bears (R 6)) (hwr : rw_ (R 0 1) wear V) (hV : ∀ j, j < R 0 1 → V j < 2 ^ 20) (w co de sp ha : Nat → Int32) (be al si : Int32) :
    ∃ w' co' de' sp' ha' be' al' si', f_X1_holds (nI M) w co de sp ha be al si (nI (R 0 5)) (nI (R 0 0)) (nI (R 0 1)) kind wide bank at_ pulls bears (nI f) wear = some (if hlB R f V M = true then 1 else 0, w', co', de', sp', ha', be', al', si') ∧ rw_ (R 0 0) w' (wN R M) := by
  have hn := hR.1.2.1
  have hk := hR.1.2.2.1
  have hM31 := pow_k hk hM
  have h5 : R 0 5 < 2 ^ 31 := Nat.lt_of_le_of_lt hR.1.2.2.2.2.2.2.2.2 (by decide)
  have hD : ∀ r, r < R 0 0 → dp R (wN R M) f r < 2 ^ 20 := fun r _ => Nat.lt_of_le_of_lt (dp_le R (wN R M) f r) (by omega)
  obtain ⟨c1, c2, c3, c4, c5, c6, c7, c8, e, q1, hco, hde, hsp, hha, hbe, hal, hsi⟩ := s_run hR hM31 hf T.kind T.wide T.bank T.at_ T.pulls w co de sp ha be al si
  refine ⟨c1, c2, c3, c4, c5, c6, c7, c8, ?_, q1⟩
  unfold f_X1_holds
  rw [e, bind_some']
  dsimp only
  rw [s_tooWide hn h5 q1 (fun r hr => (wN_le hR M hr).2), bind_some', s_bursting hR hM31 hD hV hde T.at_ hb hwr]
  simp only [bind_some', hsi, nI_z (bs6 (show R 0 0 ≤ 7 by omega)), nI_z (bs6 hk)]
  unfold hlB
  by_cases a1 : bs (lawB (R 0 5) (wN R M)) (R 0 0) = 0
  · rw [if_pos a1]
    by_cases a2 : bs (fun r => decide (0 < sl R (wN R M) f r)) (R 0 0) = 0
    · rw [if_pos a2]
      by_cases a3 : bs (buB R M (dp R (wN R M) f) V) (R 0 1) = 0
      · rw [if_pos a3]; simp [a1, a2, a3]
      · rw [if_neg a3]; simp [a3]
    · rw [if_neg a2]; simp [a2]
  · rw [if_neg a1]; simp [a1]
/-- how many sets; the fewest; the shortest, its sum -/
def lcT (R : Nat → Nat → Nat) (M : Nat) (t : Nat × Nat × Nat × Nat) : Nat × Nat × Nat × Nat :=
  (t.1 + 1, (if t.1 = 0 ∨ pc M < pc t.2.1 then M else t.2.1), (if t.1 = 0 ∨ lwN R M < t.2.2.2 then M else t.2.2.1), (if t.1 = 0 ∨ lwN R M < t.2.2.2 then lwN R M else t.2.2.2))
def lc (R : Nat → Nat → Nat) (U f : Nat) (V : Nat → Nat) : Nat → Nat × Nat × Nat × Nat
  | 0 => (0, 0, 0, 0)
  | M + 1 => if M &&& U = 0 ∧ hlB R f V M = true then lcT R M (lc R U f V M) else lc R U f V M
theorem lc_le {R : Nat → Nat → Nat} (hR : rvOK R) (U f : Nat) (V : Nat → Nat) : ∀ M, (lc R U f V M).1 ≤ M ∧ (lc R U f V M).2.1 ≤ M ∧ (lc R U f V M).2.2.1 ≤ M ∧ (lc R U f V M).2.2.2 ≤ 240
  | 0 => by simp [lc]
  | M + 1 => by
    have ih := lc_le hR U f V M
    have hl := lwN_le hR M
    simp only [lc]
    split
    · simp only [lcT]
      refine ⟨by omega, ?_, ?_, ?_⟩ <;> split <;> omega
    · omega
theorem lc_in {R : Nat → Nat → Nat} {U f M : Nat} {V : Nat → Nat} (hu : M &&& U = 0) (hh : hlB R f V M = true) : lc R U f V (M + 1) = lcT R M (lc R U f V M) := by rw [lc, if_pos ⟨hu, hh⟩]
theorem lc_o1 {R : Nat → Nat → Nat} {U f M : Nat} {V : Nat → Nat} (hu : ¬ M &&& U = 0) : lc R U f V (M + 1) = lc R U f V M := by rw [lc, if_neg (fun h => hu h.1)]
theorem lc_o2 {R : Nat → Nat → Nat} {U f M : Nat} {V : Nat → Nat} (hh : ¬ hlB R f V M = true) : lc R U f V (M + 1) = lc R U f V M := by rw [lc, if_neg (fun h => hh h.2)]
def e2 (c a : Nat) : Int32 := if c = 0 then -2 else nI a
theorem s_take {R : Nat → Nat → Nat} (hR : rvOK R) {M : Nat} (hM : M < 2 ^ R 0 1) {at_ w : Nat → Int32} (ha : rw_ (R 0 1) at_ (R 4)) (hw : rw_ (R 0 0) w (wN R M)) {c a b s : Nat} (hc : c ≤ 128) (ha1 : a < 128) (hb1 : b < 128) (hs1 : s ≤ 240) : f_X1_take (nI M) w (nI c) (e2 c a) (e2 c b) (e2 c s) (nI (R 0 0)) (nI (R 0 1)) at_ = some (nI (lcT R M (c, a, b, s)).1, nI (lcT R M (c, a, b, s)).2.1, nI (lcT R M (c, a, b, s)).2.2.1, nI (lcT R M (c, a, b, s)).2.2.2) := by
  have hk := hR.1.2.2.1
  have h128 : 2 ^ R 0 1 ≤ 2 ^ 7 := Nat.pow_le_pow_right (by decide) hk
  have hlb := lwN_le hR M
  have hp1 := pc_le M
  have hp2 := pc_le a
  unfold f_X1_take f_X1_take_B21 f_X1_take_B26 f_X1_take_B48
  rw [s_lacedWidths hR (pow_k hk hM) ha hw]
  simp only [bind_some', nm_eq, nI_1]
  by_cases h0 : c = 0
  · subst h0
    simp only [show nI 0 = 0 from rfl, if_true]
    simp [lcT, nI]
  · have e0 : ¬ nI c = 0 := fun h => h0 ((nI_z (by omega)).mp h)
    have ea : e2 c a = nI a := if_neg h0
    have es : e2 c s = nI s := if_neg h0
    have eb : e2 c b = nI b := if_neg h0
    simp only [e0, if_false]
    rw [ea, eb, es, bitCount_nI M (by omega), bitCount_nI a ha1]
    simp only [bind_some']
    by_cases h1 : pc M < pc a
    · rw [if_neg (nI_ge h1 (by omega))]
      by_cases h2 : lwN R M < s
      · rw [if_neg (nI_ge h2 (by omega))]; simp [lcT, h0, h1, h2]
      · rw [if_pos (nI_le (by omega) (by omega))]; simp [lcT, h0, h1, h2]
    · rw [if_pos (nI_le (by omega) (by omega))]
      by_cases h2 : lwN R M < s
      · rw [if_neg (nI_ge h2 (by omega))]; simp [lcT, h0, h1, h2]
      · rw [if_pos (nI_le (by omega) (by omega))]; simp [lcT, h0, h1, h2]
theorem e2_T (R : Nat → Nat → Nat) (M : Nat) (t : Nat × Nat × Nat × Nat) (x : Nat) : nI x = e2 (lcT R M t).1 x := (if_neg (by simp [lcT])).symm
/-- Lacer.search -/
theorem s_search {R : Nat → Nat → Nat} (hR : rvOK R) {U f : Nat} (hU : U < 2 ^ R 0 1) (hf : f < 2 ^ 16) {V : Nat → Nat} {kind wide bank at_ pulls : Nat → Int32} (T : tR R kind wide bank at_ pulls) {bears wear : Nat → Int32} (hb : rw_ (R 0 1) bears (R 6)) (hwr : rw_ (R 0 1) wear V) (hV : ∀ j, j < R 0 1 → V j < 2 ^ 20) (w co de sp ha : Nat → Int32) (be al si c0 a0 b0 s0 : Int32) :
    ∃ w' co' de' sp' ha' be' al' si', f_X1_search w co de sp ha be al si c0 a0 b0 s0 (nI (R 0 5)) (nI (R 0 0)) (nI (R 0 1)) kind wide bank at_ pulls bears (nI U) (nI f) wear = some (w', co', de', sp', ha', be', al', si', nI (lc R U f V (2 ^ R 0 1)).1, e2 (lc R U f V (2 ^ R 0 1)).1 (lc R U f V (2 ^ R 0 1)).2.1, e2 (lc R U f V (2 ^ R 0 1)).1 (lc R U f V (2 ^ R 0 1)).2.2.1, e2 (lc R U f V (2 ^ R 0 1)).1 (lc R U f V (2 ^ R 0 1)).2.2.2) := by
  have hn := hR.1.2.1
  have hk := hR.1.2.2.1
  have h128 : 2 ^ R 0 1 ≤ 2 ^ 7 := Nat.pow_le_pow_right (by decide) hk
  unfold f_X1_search
  refine loopK (σ := Int32 × (Nat → Int32) × (Nat → Int32) × (Nat → Int32) × (Nat → Int32) × (Nat → Int32) × Int32 × Int32 × Int32 × Int32 × Int32 × Int32 × Int32) (F := fun n x => f_X1_search_L25 (fun x1 x2 x3 x4 x5 x6 x7 x8 x9 x10 x11 x12 => some (x1, x2, x3, x4, x5, x6, x7, x8, x9, x10, x11, x12)) (nI (R 0 5)) (nI (R 0 0)) (nI (R 0 1)) kind wide bank at_ pulls bears (nI U) (nI f) wear n x.1 x.2.1 x.2.2.1 x.2.2.2.1 x.2.2.2.2.1 x.2.2.2.2.2.1 x.2.2.2.2.2.2.1 x.2.2.2.2.2.2.2.1 x.2.2.2.2.2.2.2.2.1 x.2.2.2.2.2.2.2.2.2.1 x.2.2.2.2.2.2.2.2.2.2.1 x.2.2.2.2.2.2.2.2.2.2.2.1 x.2.2.2.2.2.2.2.2.2.2.2.2) (P := fun M x => x.1 = nI M ∧ x.2.2.2.2.2.2.2.2.2.1 = nI (lc R U f V M).1 ∧ x.2.2.2.2.2.2.2.2.2.2.1 = e2 (lc R U f V M).1 (lc R U f V M).2.1 ∧ x.2.2.2.2.2.2.2.2.2.2.2.1 = e2 (lc R U f V M).1 (lc R U f V M).2.2.1 ∧ x.2.2.2.2.2.2.2.2.2.2.2.2 = e2 (lc R U f V M).1 (lc R U f V M).2.2.2) (a := 0) (N := 2 ^ R 0 1) (fuel := 2000) (s := (0, w, co, de, sp, ha, be, al, si, 0, -2, -2, -2)) ?_ (Nat.zero_le _) ?_ (by omega) ⟨rfl, rfl, rfl, rfl, rfl⟩
  · rintro m ⟨y1, y2, y3, y4, y5, y6, y7, y8, y9, y10, y11, y12, y13⟩ ⟨z1, z2, z3, z4, z5⟩ e
    dsimp only at z1 z2 z3 z4 z5 e
    subst z1; subst z2; subst z3; subst z4; subst z5
    rw [e, f_X1_search_L25, s_l' _ (by omega), if_pos (nI_le (by omega) (by omega))]
    exact ⟨_, _, _, _, _, _, _, _, rfl⟩
  · rintro m M ⟨y1, y2, y3, y4, y5, y6, y7, y8, y9, y10, y11, y12, y13⟩ - hM ⟨z1, z2, z3, z4, z5⟩
    dsimp only at z1 z2 z3 z4 z5 ⊢
    subst z1; subst z2; subst z3; subst z4; subst z5
    obtain ⟨l1, l2, l3, l4⟩ := lc_le hR U f V M
    rw [f_X1_search_L25, s_l' _ (by omega), if_neg (nI_ge (by omega) (by omega)), nI_and, nI_1]
    have hau : M &&& U < 2 ^ 31 := Nat.lt_of_le_of_lt Nat.and_le_left (by omega)
    by_cases hu : M &&& U = 0
    · rw [if_pos (show nI (M &&& U) = 0 from (nI_z hau).mpr hu)]
      obtain ⟨c1, c2, c3, c4, c5, c6, c7, c8, e, q⟩ := s_holds hR hM hf T hb hwr hV y2 y3 y4 y5 y6 y7 y8 y9
      rw [e, bind_some']
      dsimp only
      by_cases hh : hlB R f V M = true
      · rw [if_pos hh, if_neg one_ne, s_take hR hM T.at_ q (by omega) (by omega) (by omega) l4, bind_some']
        refine ⟨(_, _, _, _, _, _, _, _, _, _, _, _, _), ?_, rfl⟩
        dsimp only
        rw [lc_in hu hh]
        exact ⟨rfl, rfl, e2_T R M _ _, e2_T R M _ _, e2_T R M _ _⟩
      · rw [if_neg hh, if_pos rfl]
        refine ⟨(_, _, _, _, _, _, _, _, _, _, _, _, _), ?_, rfl⟩
        dsimp only
        rw [lc_o2 hh]
        exact ⟨rfl, rfl, rfl, rfl, rfl⟩
    · rw [if_neg (fun h => hu ((nI_z hau).mp h))]
      refine ⟨(_, _, _, _, _, _, _, _, _, _, _, _, _), ?_, rfl⟩
      dsimp only
      rw [lc_o1 hu]
      exact ⟨rfl, rfl, rfl, rfl, rfl⟩
