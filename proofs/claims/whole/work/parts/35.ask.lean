/-! questions with arguments: both sides answer the same -/
theorem iter {σ β : Type} {F : Nat → σ → Int32 → Option β} {k : σ → Option β} {g : Nat → σ} {a N : Nat} (haN : a ≤ N) (h0 : ∀ m x, F (m + 1) x (nI N) = k x) (h1 : ∀ m i, a ≤ i → i < N → F (m + 1) (g i) (nI i) = F m (g (i + 1)) (nI (i + 1))) {fuel : Nat} (hf : N < fuel) : F fuel (g a) (nI a) = k (g N) := by
  have key : ∀ (d i fuel : Nat), a ≤ i → i + d = N → d < fuel → F fuel (g i) (nI i) = k (g N) := by
    intro d
    induction d with
    | zero =>
      intro i fuel ha hi hf
      obtain ⟨m, rfl⟩ := Nat.exists_eq_succ_of_ne_zero (show fuel ≠ 0 by omega)
      have e : i = N := by omega
      subst e
      exact h0 m _
    | succ d ih =>
      intro i fuel ha hi hf
      obtain ⟨m, rfl⟩ := Nat.exists_eq_succ_of_ne_zero (show fuel ≠ 0 by omega)
      rw [h1 m i ha (by omega)]
      exact ih (i + 1) m (by omega) (by omega) (by omega)
  exact key (N - a) a fuel (Nat.le_refl _) (by omega) (by omega)
/-- an answer and its trouble; the class's water, the reference's run, whatever they hold -/
def cA (x : Option (Int32 × (Nat → Int32) × (Nat → Int32) × (Nat → Int32) × (Nat → Int32) × (Nat → Int32) × Int32 × Int32 × Int32 × Int32)) (ans t : Int32) : Prop := ∃ w co de sp ha be al si, x = some (ans, w, co, de, sp, ha, be, al, si, t)
def mA (x : Option (Int32 × Int32 × Int32 × Int32 × (Nat → Int32) × (Nat → Int32) × (Nat → Int32) × (Nat → Int32) × Int32)) (ans t : Int32) : Prop := ∃ wi wa de sp be, x = some (ans, 0, t, -1, wi, wa, de, sp, be)
/-- the narrowest of the first i + 1 -/
def nb (W : Nat → Nat) : Nat → Nat
  | 0 => 0
  | i + 1 => if W (nb W i) ≤ W (i + 1) then nb W i else i + 1
theorem nb_le (W : Nat → Nat) : ∀ i, nb W i ≤ i
  | 0 => Nat.le_refl _
  | i + 1 => by
    have := nb_le W i
    simp only [nb]
    split <;> omega
theorem s_narrowest {R : Nat → Nat → Nat} (hR : rvOK R) {L f : Nat} (hL : L < 2 ^ R 0 1) (hf : f < 2 ^ 16) {kind wide bank at_ pulls : Nat → Int32} (T : tR R kind wide bank at_ pulls) (w co de sp ha : Nat → Int32) (be al si tr : Int32) : cA (f_X10_narrowest (nI L) (nI f) w co de sp ha be al si (nI (R 0 0)) (nI (R 0 1)) kind wide bank at_ pulls tr) (nI (nb (wN R L) (R 0 0 - 1))) 0 := by
  have hn := hR.1.2.1
  have hn1 := hR.1.1
  obtain ⟨c1, c2, c3, c4, c5, c6, c7, c8, e, hw, q⟩ := s_pourNow hR hL hf T w co de sp ha be al si
  refine ⟨c1, c2, c3, c4, c5, c6, c7, c8, ?_⟩
  unfold f_X10_narrowest
  rw [s_noRiver hR, bind_some', if_pos rfl, e, bind_some']
  dsimp only
  refine (iter (F := f_X10_narrowest_L21 _ c1 (nI (R 0 0))) (k := fun x => some (x, c1, c2, c3, c4, c5, c6, c7, c8, 0)) (g := fun i => nI (nb (wN R L) (i - 1))) (a := 1) (N := R 0 0) hn1 (fun m x => ?_) (fun m i h1 hi => ?_) (show R 0 0 < 2000 by omega)).trans ?_
  · rw [f_X10_narrowest_L21, if_pos (nI_le (by omega) (by omega))]; rfl
  · have hb := nb_le (wN R L) (i - 1)
    have w1 := (wN_le hR L hi).2
    have w2 := (wN_le hR L (show nb (wN R L) (i - 1) < R 0 0 by omega)).2
    rw [f_X10_narrowest_L21, if_neg (nI_ge (by omega) (by omega))]
    simp only [inb_nI (show i < 6 by omega) (by decide), gd_true, nI_clamp (show i < 2 ^ 31 by omega), inb_nI (show nb (wN R L) (i - 1) < 6 by omega) (by decide), nI_clamp (show nb (wN R L) (i - 1) < 2 ^ 31 by omega), hw i hi, hw _ (show nb (wN R L) (i - 1) < R 0 0 by omega), nI_1]
    have en : nb (wN R L) (i + 1 - 1) = if wN R L (nb (wN R L) (i - 1)) ≤ wN R L i then nb (wN R L) (i - 1) else i := by
      obtain ⟨j, rfl⟩ := Nat.exists_eq_succ_of_ne_zero (show i ≠ 0 by omega)
      rfl
    rw [en]
    by_cases h : wN R L (nb (wN R L) (i - 1)) ≤ wN R L i
    · rw [if_pos (nI_le h (by omega)), if_pos h]
    · rw [if_neg (nI_ge (by omega) (by omega)), if_neg h]
  · rfl
theorem m_narrowest {R : Nat → Nat → Nat} (hR : rvOK R) {L U f sd : Nat} {V : Nat → Nat} (hL : L < 2 ^ R 0 1) (hf : f < 2 ^ 16) {kind wide bank at_ pulls v : Nat → Int32} (T : tR R kind wide bank at_ pulls) (hv : vR (R 0 1) v L U f sd V) (th tr wh : Int32) (wi wa de sp : Nat → Int32) (be : Int32) : mA (f_X12_narrowest th tr wh (nI (R 0 0)) (nI (R 0 1)) kind wide bank at_ pulls v wi wa de sp be) (nI (nb (wN R L) (R 0 0 - 1))) 0 := by
  have hn := hR.1.2.1
  have hn1 := hR.1.1
  obtain ⟨c1, c2, c3, c4, c5, e, hw, hwa, hde, hsp, hbe⟩ := m_runsNow hR hL hf T hv wi wa de sp be
  refine ⟨c1, c2, c3, c4, c5, ?_⟩
  unfold f_X12_narrowest
  rw [e, bind_some']
  dsimp only
  refine (iter (F := f_X12_narrowest_L26 _ (nI (R 0 0)) c1) (k := fun x => some (x, 0, 0, -1, c1, c2, c3, c4, c5)) (g := fun i => nI (nb (wN R L) (i - 1))) (a := 1) (N := R 0 0) hn1 (fun m x => ?_) (fun m i h1 hi => ?_) (show R 0 0 < 2000 by omega)).trans ?_
  · rw [f_X12_narrowest_L26, if_pos (nI_le (by omega) (by omega))]; rfl
  · have hb := nb_le (wN R L) (i - 1)
    have w1 := (wN_le hR L hi).2
    have w2 := (wN_le hR L (show nb (wN R L) (i - 1) < R 0 0 by omega)).2
    rw [f_X12_narrowest_L26, if_neg (nI_ge (by omega) (by omega))]
    simp only [inb_nI (show i < 6 by omega) (by decide), gd_true, nI_clamp (show i < 2 ^ 31 by omega), inb_nI (show nb (wN R L) (i - 1) < 6 by omega) (by decide), nI_clamp (show nb (wN R L) (i - 1) < 2 ^ 31 by omega), hw i hi, hw _ (show nb (wN R L) (i - 1) < R 0 0 by omega), nI_1]
    have en : nb (wN R L) (i + 1 - 1) = if wN R L (nb (wN R L) (i - 1)) ≤ wN R L i then nb (wN R L) (i - 1) else i := by
      obtain ⟨j, rfl⟩ := Nat.exists_eq_succ_of_ne_zero (show i ≠ 0 by omega)
      rfl
    rw [en]
    by_cases h : wN R L (nb (wN R L) (i - 1)) ≤ wN R L i
    · rw [if_pos (nI_le h (by omega)), if_pos h]
    · rw [if_neg (nI_ge (by omega) (by omega)), if_neg h]
  · rfl
/-- a number of a reach, or not -/
theorem nat_of {p : Int32} (h : ¬ p < 0) : ∃ r, r < 2 ^ 31 ∧ p = nI r := by
  have h0 : (0 : Int32).toInt = 0 := rfl
  rw [i32_lt, h0] at h
  have h2 := Int32.toInt_lt p
  refine ⟨p.toInt.toNat, by omega, ?_⟩
  rw [i32_eq, nI_toInt (by omega)]
  omega
theorem isReach_or {n : Nat} (hn : n < 2 ^ 31) (p : Int32) : (f_X10_isReach p (nI n) = some 0 ∧ f_X12_isReach p (nI n) = some 0) ∨ (∃ r, r < n ∧ p = nI r ∧ f_X10_isReach p (nI n) = some 1 ∧ f_X12_isReach p (nI n) = some 1) := by
  unfold f_X10_isReach f_X12_isReach
  by_cases h : p < 0
  · left; rw [if_pos h]; exact ⟨rfl, rfl⟩
  · obtain ⟨r, hr, rfl⟩ := nat_of h
    rw [if_neg h]
    by_cases h2 : n ≤ r
    · left; rw [if_pos (nI_le h2 hr)]; exact ⟨rfl, rfl⟩
    · right; refine ⟨r, by omega, rfl, ?_⟩
      rw [if_neg (nI_ge (by omega) (by omega))]; exact ⟨rfl, rfl⟩
theorem isFlow_or (p : Int32) : (f_X10_isFlow p = some 0 ∧ f_X12_in p 1 999 = some 0) ∨ (∃ f, f < 2 ^ 16 ∧ p = nI f ∧ f_X10_isFlow p = some 1 ∧ f_X12_in p 1 999 = some 1) := by
  unfold f_X10_isFlow f_X12_in
  by_cases h : p < 1
  · left; rw [if_pos h]; exact ⟨rfl, rfl⟩
  · rw [if_neg h]
    have h0 : ¬ p < 0 := by
      rw [i32_lt] at h ⊢
      have e0 : (0 : Int32).toInt = 0 := rfl
      have e1 : (1 : Int32).toInt = 1 := rfl
      omega
    by_cases h2 : 999 < p
    · left; rw [if_pos h2]; exact ⟨rfl, rfl⟩
    · right
      obtain ⟨f, hf, rfl⟩ := nat_of h0
      refine ⟨f, ?_, rfl, ?_⟩
      · rw [i32_lt, nI_toInt hf] at h2
        have e1 : (999 : Int32).toInt = 999 := rfl
        omega
      · rw [if_neg h2]; exact ⟨rfl, rfl⟩
/-- reach -/
theorem j_reach {R : Nat → Nat → Nat} (hR : rvOK R) {L U f sd : Nat} {V : Nat → Nat} (hL : L < 2 ^ R 0 1) (hf : f < 2 ^ 16) {kind wide bank at_ pulls kind2 wide2 bank2 at2 pulls2 v : Nat → Int32} (T : tR R kind wide bank at_ pulls) (T2 : tR R kind2 wide2 bank2 at2 pulls2) (hv : vR (R 0 1) v L U f sd V) (p1 p2 : Int32) (w co de sp ha : Nat → Int32) (be al si tr : Int32) (th tr2 wh : Int32) (wi wa de2 sp2 : Nat → Int32) (be2 : Int32) :
    ∃ ans t, cA (f_X10_reach p1 p2 (nI L) (nI f) w co de sp ha be al si (nI (R 0 0)) (nI (R 0 1)) kind wide bank at_ pulls tr) ans t ∧ mA (f_X12_reach p1 p2 th tr2 wh (nI (R 0 0)) (nI (R 0 1)) kind2 wide2 bank2 at2 pulls2 v wi wa de2 sp2 be2) ans t := by
  have hn := hR.1.2.1
  obtain ⟨c1, c2, c3, c4, c5, c6, c7, c8, e, hw, hco, hde, hsp, hha, hbe, hal, hsi⟩ := s_pourNow hR hL hf T w co de sp ha be al si
  obtain ⟨m1, m2, m3, m4, m5, e2, k1, k2, k3, k4, k5⟩ := m_runsNow hR hL hf T2 hv wi wa de2 sp2 be2
  unfold f_X10_reach f_X12_reach
  rcases isReach_or (show R 0 0 < 2 ^ 31 by omega) p1 with ⟨a1, a2⟩ | ⟨r, hr, rfl, a1, a2⟩
  · rw [a1, a2]
    exact ⟨-1, 1, ⟨_, _, _, _, _, _, _, _, rfl⟩, ⟨_, _, _, _, _, rfl⟩⟩
  · rw [a1, a2, bind_some', bind_some', if_neg (show ¬ (1 : Int32) = 0 by decide), if_neg (show ¬ (1 : Int32) = 0 by decide)]
    unfold f_X12_in
    by_cases b1 : p2 < 0
    · rw [if_pos b1, if_pos b1]
      exact ⟨-1, 1, ⟨_, _, _, _, _, _, _, _, rfl⟩, ⟨_, _, _, _, _, rfl⟩⟩
    · rw [if_neg b1, if_neg b1]
      have b3 : (p2 ≤ 7) ↔ ¬ (7 < p2) := by rw [i32_le, i32_lt]; omega
      by_cases b2 : 7 < p2
      · rw [if_neg (fun h => b3.mp h b2), if_pos b2]
        exact ⟨-1, 1, ⟨_, _, _, _, _, _, _, _, rfl⟩, ⟨_, _, _, _, _, rfl⟩⟩
      · rw [if_pos (b3.mpr b2), if_neg b2, bind_some', if_neg (show ¬ (1 : Int32) = 0 by decide), e, bind_some', e2, bind_some']
        have hH := m_harmAt hn T2.kind k4 hr (hR.2.1 r hr).1 (Nat.lt_of_le_of_lt (sl_le R (wN R L) f r) (by omega))
        unfold f_X10_ofReach f_X10_answered f_X12_good
        simp only [inb_nI (show r < 6 by omega) (by decide), gd_true, nI_clamp (show r < 2 ^ 31 by omega), T.kind r hr, T.wide r hr, T.bank r hr, T2.kind r hr, T2.wide r hr, T2.bank r hr, hw r hr, hco r hr, hde r hr, hsp r hr, hha r hr, k1 r hr, k2 r hr, k3 r hr, k4 r hr, hH, bind_some']
        by_cases d0 : p2 = 0
        · rw [if_pos d0, if_pos d0]; exact ⟨_, _, ⟨_, _, _, _, _, _, _, _, rfl⟩, ⟨_, _, _, _, _, rfl⟩⟩
        · rw [if_neg d0, if_neg d0]
          by_cases d1 : p2 = 1
          · rw [if_pos d1, if_pos d1]; exact ⟨_, _, ⟨_, _, _, _, _, _, _, _, rfl⟩, ⟨_, _, _, _, _, rfl⟩⟩
          · rw [if_neg d1, if_neg d1]
            by_cases d2 : p2 = 2
            · rw [if_pos d2, if_pos d2]; exact ⟨_, _, ⟨_, _, _, _, _, _, _, _, rfl⟩, ⟨_, _, _, _, _, rfl⟩⟩
            · rw [if_neg d2, if_neg d2]
              by_cases d3 : p2 = 3
              · rw [if_pos d3, if_pos d3]; exact ⟨_, _, ⟨_, _, _, _, _, _, _, _, rfl⟩, ⟨_, _, _, _, _, rfl⟩⟩
              · rw [if_neg d3, if_neg d3]
                by_cases d4 : p2 = 4
                · rw [if_pos d4, if_pos d4]; exact ⟨_, _, ⟨_, _, _, _, _, _, _, _, rfl⟩, ⟨_, _, _, _, _, rfl⟩⟩
                · rw [if_neg d4, if_neg d4]
                  by_cases d5 : p2 = 5
                  · rw [if_pos d5, if_pos d5]; exact ⟨_, _, ⟨_, _, _, _, _, _, _, _, rfl⟩, ⟨_, _, _, _, _, rfl⟩⟩
                  · rw [if_neg d5, if_neg d5]
                    by_cases d6 : p2 = 6
                    · rw [if_pos d6, if_pos d6]; exact ⟨_, _, ⟨_, _, _, _, _, _, _, _, rfl⟩, ⟨_, _, _, _, _, rfl⟩⟩
                    · rw [if_neg d6, if_neg d6]; exact ⟨_, _, ⟨_, _, _, _, _, _, _, _, rfl⟩, ⟨_, _, _, _, _, rfl⟩⟩
/-- asks, of a flow that may be asked -/
theorem m_asks {R : Nat → Nat → Nat} (hR : rvOK R) {L U f sd : Nat} {V : Nat → Nat} (hL : L < 2 ^ R 0 1) {kind wide bank at_ pulls v : Nat → Int32} (T : tR R kind wide bank at_ pulls) (hv : vR (R 0 1) v L U f sd V) {y : Nat} (hy : y < 2 ^ 16) (hin : f_X12_in (nI y) 1 999 = some 1) (wi wa de sp : Nat → Int32) (be : Int32) :
    ∃ wi' wa' de' sp' be', f_X12_asks 1 (nI y) (nI (R 0 0)) (nI (R 0 1)) kind wide bank at_ pulls v wi wa de sp be = some (0, wi', wa', de', sp', be') ∧ runI R (wN R L) y (R 0 0) wi' wa' de' sp' be' := by
  obtain ⟨c1, c2, c3, c4, c5, e, q⟩ := m_runs hR (pow_k hR.1.2.2.1 hL) hy T.kind T.wide T.bank T.at_ T.pulls wi wa de sp be
  refine ⟨c1, c2, c3, c4, c5, ?_, q⟩
  unfold f_X12_asks
  rw [if_neg (by decide), hin, bind_some', if_neg (by decide), vR_laced hR.1.2.2.1 hv hL, bind_some', e]; rfl
theorem m_asks0 {R : Nat → Nat → Nat} {kind wide bank at_ pulls v : Nat → Int32} {p : Int32} (hin : f_X12_in p 1 999 = some 0) (wi wa de sp : Nat → Int32) (be : Int32) :
    f_X12_asks 1 p (nI (R 0 0)) (nI (R 0 1)) kind wide bank at_ pulls v wi wa de sp be = some (2, wi, wa, de, sp, be) := by
  unfold f_X12_asks
  rw [if_neg (by decide), hin]; rfl
theorem j_depthBy {R : Nat → Nat → Nat} (hR : rvOK R) {L U f sd : Nat} {V : Nat → Nat} (hL : L < 2 ^ R 0 1) {kind wide bank at_ pulls kind2 wide2 bank2 at2 pulls2 v : Nat → Int32} (T : tR R kind wide bank at_ pulls) (T2 : tR R kind2 wide2 bank2 at2 pulls2) (hv : vR (R 0 1) v L U f sd V) (p1 p2 : Int32) (w co de sp ha : Nat → Int32) (be al si tr : Int32) (th tr2 wh : Int32) (wi wa de2 sp2 : Nat → Int32) (be2 : Int32) :
    ∃ ans t, cA (f_X10_depthBy p1 p2 (nI L) w co de sp ha be al si (nI (R 0 0)) (nI (R 0 1)) kind wide bank at_ pulls tr) ans t ∧ mA (f_X12_depthBy p1 p2 th tr2 wh (nI (R 0 0)) (nI (R 0 1)) kind2 wide2 bank2 at2 pulls2 v wi wa de2 sp2 be2) ans t := by
  have hn := hR.1.2.1
  unfold f_X10_depthBy f_X12_depthBy
  rcases isReach_or (show R 0 0 < 2 ^ 31 by omega) p1 with ⟨a1, a2⟩ | ⟨r, hr, rfl, a1, a2⟩
  · rw [a1, a2]
    exact ⟨-1, 1, ⟨_, _, _, _, _, _, _, _, rfl⟩, ⟨_, _, _, _, _, rfl⟩⟩
  · rw [a1, a2, bind_some', bind_some', if_neg (by decide)]
    rcases isFlow_or p2 with ⟨b1, b2⟩ | ⟨y, hy, rfl, b1, b2⟩
    · rw [b1, m_asks0 b2]
      exact ⟨-1, 2, ⟨_, _, _, _, _, _, _, _, rfl⟩, ⟨_, _, _, _, _, rfl⟩⟩
    · obtain ⟨c1, c2, c3, c4, c5, c6, c7, c8, e, hw, hco, hde, hsp, hha, hbe, hal, hsi⟩ := s_pourBy hR hL hy T w co de sp ha be al si
      obtain ⟨m1, m2, m3, m4, m5, e2, k1, k2, k3, k4, k5⟩ := m_asks hR hL T2 hv hy b2 wi wa de2 sp2 be2
      rw [b1, bind_some', if_neg (by decide), e, bind_some', e2, bind_some']
      unfold f_X10_answered f_X12_good
      dsimp only
      rw [if_pos (show (0 : Int32) ≤ 0 by decide)]
      simp only [inb_nI (show r < 6 by omega) (by decide), gd_true, nI_clamp (show r < 2 ^ 31 by omega), hde r hr, k3 r hr, bind_some']
      exact ⟨_, _, ⟨_, _, _, _, _, _, _, _, rfl⟩, ⟨_, _, _, _, _, rfl⟩⟩
theorem j_harmBy {R : Nat → Nat → Nat} (hR : rvOK R) {L U f sd : Nat} {V : Nat → Nat} (hL : L < 2 ^ R 0 1) {kind wide bank at_ pulls kind2 wide2 bank2 at2 pulls2 v : Nat → Int32} (T : tR R kind wide bank at_ pulls) (T2 : tR R kind2 wide2 bank2 at2 pulls2) (hv : vR (R 0 1) v L U f sd V) (p1 : Int32) (w co de sp ha : Nat → Int32) (be al si tr : Int32) (th tr2 wh : Int32) (wi wa de2 sp2 : Nat → Int32) (be2 : Int32) :
    ∃ ans t, cA (f_X10_harmBy p1 (nI L) w co de sp ha be al si (nI (R 0 0)) (nI (R 0 1)) kind wide bank at_ pulls tr) ans t ∧ mA (f_X12_harmBy p1 th tr2 wh (nI (R 0 0)) (nI (R 0 1)) kind2 wide2 bank2 at2 pulls2 v wi wa de2 sp2 be2) ans t := by
  have hn := hR.1.2.1
  unfold f_X10_harmBy f_X12_harmBy
  rw [s_noRiver hR, bind_some', if_pos rfl]
  rcases isFlow_or p1 with ⟨b1, b2⟩ | ⟨y, hy, rfl, b1, b2⟩
  · rw [b1, m_asks0 b2]
    exact ⟨-1, 2, ⟨_, _, _, _, _, _, _, _, rfl⟩, ⟨_, _, _, _, _, rfl⟩⟩
  · obtain ⟨c1, c2, c3, c4, c5, c6, c7, c8, e, hw, hco, hde, hsp, hha, hbe, hal, hsi⟩ := s_pourBy hR hL hy T w co de sp ha be al si
    obtain ⟨m1, m2, m3, m4, m5, e2, k1, k2, k3, k4, k5⟩ := m_asks hR hL T2 hv hy b2 wi wa de2 sp2 be2
    rw [b1, bind_some', if_neg (by decide), e, bind_some', e2, bind_some']
    dsimp only
    rw [if_pos (show (0 : Int32) ≤ 0 by decide), m_allHarm hn T2.kind k4 (fun r hr => (hR.2.1 r hr).1) (fun r _ => Nat.lt_of_le_of_lt (sl_le R (wN R L) y r) (by omega)), hal, hsum_sm]
    exact ⟨_, _, ⟨_, _, _, _, _, _, _, _, rfl⟩, ⟨_, _, _, _, _, rfl⟩⟩
theorem j_bursts {R : Nat → Nat → Nat} (hR : rvOK R) {L U f sd : Nat} {V : Nat → Nat} (hL : L < 2 ^ R 0 1) {kind wide bank at_ pulls kind2 wide2 bank2 at2 pulls2 v : Nat → Int32} (T : tR R kind wide bank at_ pulls) (T2 : tR R kind2 wide2 bank2 at2 pulls2) (hv : vR (R 0 1) v L U f sd V) {bears bears2 wear : Nat → Int32} (hb : rw_ (R 0 1) bears (R 6)) (hb2 : rw_ (R 0 1) bears2 (R 6)) (hwr : rw_ (R 0 1) wear V) (hV : ∀ j, j < R 0 1 → V j < 2 ^ 20) (p1 : Int32) (w co de sp ha : Nat → Int32) (be al si tr : Int32) (th tr2 wh : Int32) (wi wa de2 sp2 : Nat → Int32) (be2 : Int32) :
    ∃ ans t, cA (f_X10_bursts p1 (nI L) wear w co de sp ha be al si (nI (R 0 0)) (nI (R 0 1)) kind wide bank at_ pulls bears tr) ans t ∧ mA (f_X12_bursts p1 th tr2 wh (nI (R 0 0)) (nI (R 0 1)) kind2 wide2 bank2 at2 pulls2 bears2 v wi wa de2 sp2 be2) ans t := by
  have hn := hR.1.2.1
  unfold f_X10_bursts f_X12_bursts
  rw [s_noRiver hR, bind_some', if_pos rfl]
  rcases isFlow_or p1 with ⟨b1, b2⟩ | ⟨y, hy, rfl, b1, b2⟩
  · rw [b1, m_asks0 b2]
    exact ⟨-1, 2, ⟨_, _, _, _, _, _, _, _, rfl⟩, ⟨_, _, _, _, _, rfl⟩⟩
  · obtain ⟨c1, c2, c3, c4, c5, c6, c7, c8, e, hw, hco, hde, hsp, hha, hbe, hal, hsi⟩ := s_pourBy hR hL hy T w co de sp ha be al si
    obtain ⟨m1, m2, m3, m4, m5, e2, k1, k2, k3, k4, k5⟩ := m_asks hR hL T2 hv hy b2 wi wa de2 sp2 be2
    have hD : ∀ r, r < R 0 0 → dp R (wN R L) y r < 2 ^ 20 := fun r _ => Nat.lt_of_le_of_lt (dp_le R (wN R L) y r) (by omega)
    rw [b1, bind_some', if_neg (by decide), e, bind_some', e2, bind_some']
    dsimp only
    rw [if_pos (show (0 : Int32) ≤ 0 by decide), vR_laced hR.1.2.2.1 hv hL, bind_some', s_bursting hR (pow_k hR.1.2.2.1 hL) hD hV hde T.at_ hb hwr, m_bursting hR (pow_k hR.1.2.2.1 hL) hD hV k3 T2.at_ hb2 hv.2.1]
    exact ⟨_, _, ⟨_, _, _, _, _, _, _, _, rfl⟩, ⟨_, _, _, _, _, rfl⟩⟩
