/-! mud: the sets that fit -/
def exB (p : Nat → Bool) : Nat → Bool
  | 0 => false
  | n + 1 => exB p n || p n
theorem exB_mono {p : Nat → Bool} {j : Nat} (h : exB p j = true) : ∀ d, exB p (j + d) = true
  | 0 => h
  | d + 1 => by
    show (exB p (j + d) || _) = true
    rw [exB_mono h d]; rfl
theorem exB_le {p : Nat → Bool} {j n : Nat} (h : exB p j = true) (hn : j ≤ n) : exB p n = true := by
  have := exB_mono h (n - j)
  rw [show j + (n - j) = n by omega] at this
  exact this
theorem s_isAsMud {R : Nat → Nat → Nat} (hn : R 0 0 ≤ 6) {D : Nat → Nat} {mud de : Nat → Int32} (hm : ∀ r, r < R 0 0 → mud r = mI (R 10 r)) (hd : rw_ (R 0 0) de D) : f_X3_isAsMud de (nI (R 0 0)) mud = some (if exB (juB R D) (R 0 0) = true then 0 else 1) := by
  unfold f_X3_isAsMud
  refine loopX (F := f_X3_isAsMud_L2 (some 1) de (nI (R 0 0)) mud) (P := fun j x => x = nI j ∧ exB (juB R D) j = false) (Q := fun o => o = some (if exB (juB R D) (R 0 0) = true then 0 else 1)) (a := 0) (N := R 0 0) (Nat.zero_le _) ?_ ?_ (by omega) ⟨rfl, rfl⟩
  · rintro m _ ⟨rfl, h⟩
    rw [f_X3_isAsMud_L2, if_pos (nI_le (by omega) (by omega)), h]; rfl
  · rintro m r _ - hr ⟨rfl, h⟩
    rw [f_X3_isAsMud_L2, if_neg (nI_ge (by omega) (by omega))]
    simp only [inb_nI (show r < 6 by omega) (by decide), gd_true, nI_clamp (show r < 2 ^ 31 by omega), nI_1, hm r hr, hd r hr]
    by_cases h1 : mI (R 10 r) = -1
    · right
      rw [if_pos h1]
      exact ⟨_, ⟨rfl, by simp [exB, h, juB, h1]⟩, rfl⟩
    · rw [if_neg h1]
      by_cases h2 : mI (R 10 r) = nI (D r)
      · right
        rw [if_pos h2]
        exact ⟨_, ⟨rfl, by simp [exB, h, juB, h2]⟩, rfl⟩
      · left
        rw [if_neg h2, if_pos (exB_le (j := r + 1) (by simp [exB, juB, h1, h2]) (by omega))]
theorem m_isMud {R : Nat → Nat → Nat} (hn : R 0 0 ≤ 6) {D : Nat → Nat} {mud de : Nat → Int32} (hm : ∀ r, r < R 0 0 → mud r = mI (R 10 r)) (hd : rw_ (R 0 0) de D) : f_X12_isMud (nI (R 0 0)) mud de = some (if exB (juB R D) (R 0 0) = true then 0 else 1) := by
  unfold f_X12_isMud
  refine loopX (F := f_X12_isMud_L2 (some 1) (nI (R 0 0)) mud de) (P := fun j x => x = nI j ∧ exB (juB R D) j = false) (Q := fun o => o = some (if exB (juB R D) (R 0 0) = true then 0 else 1)) (a := 0) (N := R 0 0) (Nat.zero_le _) ?_ ?_ (by omega) ⟨rfl, rfl⟩
  · rintro m _ ⟨rfl, h⟩
    rw [f_X12_isMud_L2, if_pos (nI_le (by omega) (by omega)), h]; rfl
  · rintro m r _ - hr ⟨rfl, h⟩
    rw [f_X12_isMud_L2, if_neg (nI_ge (by omega) (by omega))]
    simp only [inb_nI (show r < 6 by omega) (by decide), gd_true, nI_clamp (show r < 2 ^ 31 by omega), nI_1, hm r hr, hd r hr]
    by_cases h1 : mI (R 10 r) = -1
    · right
      rw [if_pos h1]
      exact ⟨_, ⟨rfl, by simp [exB, h, juB, h1]⟩, rfl⟩
    · rw [if_neg h1]
      by_cases h2 : mI (R 10 r) = nI (D r)
      · right
        rw [if_pos h2]
        exact ⟨_, ⟨rfl, by simp [exB, h, juB, h2]⟩, rfl⟩
      · left
        rw [if_neg h2, if_pos (exB_le (j := r + 1) (by simp [exB, juB, h1, h2]) (by omega))]
/-- the set M fits -/
def ft (R : Nat → Nat → Nat) (L f M : Nat) : Bool := !exB (juB R (dp R (wN R (ld L M)) f)) (R 0 0)
def fs (R : Nat → Nat → Nat) (L f : Nat) : Nat → Nat × Nat × Nat × (Nat → Nat → Nat)
  | 0 => (0, 0, L, fun _ _ => 0)
  | M + 1 => if ld M L = 0 ∧ ft R L f M = true then ((fs R L f M).1 + 1, (fs R L f M).2.1 ||| M, (fs R L f M).2.2.1 &&& M, fun j r => if j = (fs R L f M).1 then dp R (wN R (ld L M)) f r else (fs R L f M).2.2.2 j r) else fs R L f M
theorem fs_le (R : Nat → Nat → Nat) (L f : Nat) : ∀ M, (fs R L f M).1 ≤ M ∧ ∀ j r, (fs R L f M).2.2.2 j r ≤ f
  | 0 => ⟨Nat.le_refl _, fun _ _ => Nat.zero_le _⟩
  | M + 1 => by
    obtain ⟨h1, h2⟩ := fs_le R L f M
    simp only [fs]
    split
    · refine ⟨by (try dsimp only); omega, fun j r => ?_⟩
      (try dsimp only)
      split
      · exact dp_le _ _ _ _
      · exact h2 j r
    · exact ⟨by omega, h2⟩
theorem fs_in {R : Nat → Nat → Nat} {L f M : Nat} (hs : ld M L = 0) (hx : ¬ exB (juB R (dp R (wN R (ld L M)) f)) (R 0 0) = true) : fs R L f (M + 1) = ((fs R L f M).1 + 1, (fs R L f M).2.1 ||| M, (fs R L f M).2.2.1 &&& M, fun j r => if j = (fs R L f M).1 then dp R (wN R (ld L M)) f r else (fs R L f M).2.2.2 j r) := by
  rw [fs, if_pos ⟨hs, by simp [ft, hx]⟩]
theorem fs_o1 {R : Nat → Nat → Nat} {L f M : Nat} (hs : ¬ ld M L = 0) : fs R L f (M + 1) = fs R L f M := by rw [fs, if_neg (fun h => hs h.1)]
theorem fs_o2 {R : Nat → Nat → Nat} {L f M : Nat} (hx : exB (juB R (dp R (wN R (ld L M)) f)) (R 0 0) = true) : fs R L f (M + 1) = fs R L f M := by rw [fs, if_neg (fun h => by simp [ft, hx] at h)]
theorem fs_end (R : Nat → Nat → Nat) (L f : Nat) : ∀ d, fs R L f (L + 1 + d) = fs R L f (L + 1)
  | 0 => rfl
  | d + 1 => by
    show fs R L f ((L + 1 + d) + 1) = _
    rw [fs, if_neg (fun h => by have := sub_le h.1; omega)]
    exact fs_end R L f d
/-- the table of depths -/
def tbR (n c : Nat) (g : Nat → Nat → Nat) (t : Nat → Int32) : Prop := ∀ j r, j < c → r < n → t (6 * j + r) = nI (g j r)
theorem ix6 (c r : Nat) : nI c * 6 + nI r = nI (6 * c + r) := by
  rw [show (6 : Int32) = nI 6 from rfl, pk_mul, nI_add, Nat.mul_comm]
theorem ix6' (c r : Nat) : 6 * nI c + nI r = nI (6 * c + r) := by
  rw [show (6 : Int32) = nI 6 from rfl, pk_mul, nI_add]
theorem s_take3 {n c : Nat} (hn : n ≤ 6) (hc : c < 128) {de : Nat → Int32} {D : Nat → Nat} (hd : rw_ n de D) {g : Nat → Nat → Nat} {t : Nat → Int32} (ht : tbR n c g t) (M s e : Int32) :
    ∃ t', f_X3_take M de t (nI c) s e (nI n) = some (t', nI (c + 1), s ||| M, e &&& M) ∧ tbR n (c + 1) (fun j r => if j = c then D r else g j r) t' := by
  unfold f_X3_take
  refine loopK2 (A_1 := Int32) (A_2 := (Nat → Int32)) (F := fun k s_1 s_2 => f_X3_take_L2 (fun t2 => nm (s ||| M) fun z6 => nm (e &&& M) fun z7 => nm (nI c + 1) fun z8 => some (t2, z8, z6, z7)) de (nI c) (nI n) k s_1 s_2) (P := fun i s_1 s_2 => s_1 = nI i ∧ tbR n c g s_2 ∧ ∀ r, r < i → s_2 (6 * c + r) = nI (D r)) (a := 0) (N := n) (fuel := 2000) (i_1 := 0) (i_2 := t) ?_ (Nat.zero_le _) ?_ (by omega) ⟨rfl, ht, fun r h => absurd h (by omega)⟩
  · rintro m y1 y2 ⟨z1, z2, z3⟩ e
    (try dsimp only at z1 z2 z3 e)
    subst z1
    refine ⟨y2, ?_, ?_⟩
    · rw [show (0 : Int32) = nI 0 from rfl] at e
      rw [show (0 : Int32) = nI 0 from rfl, e, f_X3_take_L2, if_pos (nI_le (by omega) (by omega))]
      simp only [nm_eq, nI_1]
    · intro j r hj hr
      by_cases hjc : j = c
      · subst hjc
        rw [z3 r hr]; simp
      · rw [z2 j r (by omega) hr]; simp [hjc]
  · rintro m r y1 y2 - hr ⟨z1, z2, z3⟩
    (try dsimp only at z1 z2 z3 ⊢)
    subst z1
    rw [f_X3_take_L2, if_neg (nI_ge (by omega) (by omega)), ix6, inb_nI (show r < 6 by omega) (by decide), gd_true, nm_eq, nI_clamp (show r < 2 ^ 31 by omega), hd r hr, inb_nI (show 6 * c + r < 768 by omega) (by decide), gd_true, nm_eq, nI_clamp (show 6 * c + r < 2 ^ 31 by omega), nI_1 r]
    refine ⟨_, _, rfl, ⟨rfl, fun j q hj hq => ?_, fun q hq => ?_⟩⟩
    · (try dsimp only)
      rw [upd_n _ _ (by omega)]; exact z2 j q hj hq
    · (try dsimp only)
      by_cases e : q = r
      · subst e; rw [upd_s]
      · rw [upd_n _ _ (by omega)]; exact z3 q (by omega)
/-- the reference's loop of the same -/
theorem m_take3 {n c : Nat} (hn : n ≤ 6) (hc : c < 128) {de : Nat → Int32} {D : Nat → Nat} (hd : rw_ n de D) {g : Nat → Nat → Nat} {t : Nat → Int32} (ht : tbR n c g t) {K : (Nat → Int32) → Option ((Nat → Int32) × (Nat → Int32) × (Nat → Int32) × (Nat → Int32) × Int32 × Int32 × Int32 × Int32 × (Nat → Int32))} :
    ∃ t', f_X12_letsOut_L66 K (nI n) de (nI c) 2000 0 t = K t' ∧ tbR n (c + 1) (fun j r => if j = c then D r else g j r) t' := by
  refine loopK2 (A_1 := Int32) (A_2 := (Nat → Int32)) (F := fun k s_1 s_2 => f_X12_letsOut_L66 K (nI n) de (nI c) k s_1 s_2) (P := fun i s_1 s_2 => s_1 = nI i ∧ tbR n c g s_2 ∧ ∀ r, r < i → s_2 (6 * c + r) = nI (D r)) (a := 0) (N := n) (fuel := 2000) (i_1 := 0) (i_2 := t) ?_ (Nat.zero_le _) ?_ (by omega) ⟨rfl, ht, fun r h => absurd h (by omega)⟩
  · rintro m y1 y2 ⟨z1, z2, z3⟩ e
    (try dsimp only at z1 z2 z3 e)
    subst z1
    refine ⟨y2, ?_, ?_⟩
    · rw [e, f_X12_letsOut_L66, if_pos (nI_le (by omega) (by omega))]
    · intro j r hj hr
      by_cases hjc : j = c
      · subst hjc
        rw [z3 r hr]; simp
      · rw [z2 j r (by omega) hr]; simp [hjc]
  · rintro m r y1 y2 - hr ⟨z1, z2, z3⟩
    (try dsimp only at z1 z2 z3 ⊢)
    subst z1
    rw [f_X12_letsOut_L66, if_neg (nI_ge (by omega) (by omega)), ix6', inb_nI (show r < 6 by omega) (by decide), gd_true, nm_eq, nI_clamp (show r < 2 ^ 31 by omega), hd r hr, inb_nI (show 6 * c + r < 768 by omega) (by decide), gd_true, nm_eq, nI_clamp (show 6 * c + r < 2 ^ 31 by omega), nI_1]
    refine ⟨_, _, rfl, ⟨rfl, fun j q hj hq => ?_, fun q hq => ?_⟩⟩
    · (try dsimp only)
      rw [upd_n _ _ (by omega)]; exact z2 j q hj hq
    · (try dsimp only)
      by_cases e : q = r
      · subst e; rw [upd_s]
      · rw [upd_n _ _ (by omega)]; exact z3 q (by omega)
/-- what the search has found -/
def fsA (R : Nat → Nat → Nat) (L f : Nat) : Nat := if (fs R L f (2 ^ R 0 1)).1 = 0 then 0 else (fs R L f (2 ^ R 0 1)).2.2.1
theorem s_search3 {R : Nat → Nat → Nat} (hR : rvOK R) {L f : Nat} (hL : L < 2 ^ R 0 1) (hf : f < 2 ^ 16) {kind wide bank at_ pulls : Nat → Int32} (T : tR R kind wide bank at_ pulls) {mud : Nat → Int32} (hm : ∀ r, r < R 0 0 → mud r = mI (R 10 r)) (w co de sp ha : Nat → Int32) (be al si : Int32) (t : Nat → Int32) (c0 s0 a0 : Int32) :
    ∃ w' co' de' sp' ha' be' al' si' t', f_X3_search w co de sp ha be al si t c0 s0 a0 (nI (R 0 0)) (nI (R 0 1)) kind wide bank mud at_ pulls (nI L) (nI f) = some (w', co', de', sp', ha', be', al', si', t', nI (fs R L f (2 ^ R 0 1)).1, nI (fs R L f (2 ^ R 0 1)).2.1, nI (fsA R L f)) ∧ tbR (R 0 0) (fs R L f (2 ^ R 0 1)).1 (fs R L f (2 ^ R 0 1)).2.2.2 t' := by
  have hn := hR.1.2.1
  have hk := hR.1.2.2.1
  have h128 : 2 ^ R 0 1 ≤ 2 ^ 7 := Nat.pow_le_pow_right (by decide) hk
  have hL31 := pow_k hk hL
  unfold f_X3_search
  refine loopK13 (A_1 := Int32) (A_2 := (Nat → Int32)) (A_3 := (Nat → Int32)) (A_4 := (Nat → Int32)) (A_5 := (Nat → Int32)) (A_6 := (Nat → Int32)) (A_7 := Int32) (A_8 := Int32) (A_9 := Int32) (A_10 := (Nat → Int32)) (A_11 := Int32) (A_12 := Int32) (A_13 := Int32) (F := fun n s_1 s_2 s_3 s_4 s_5 s_6 s_7 s_8 s_9 s_10 s_11 s_12 s_13 => f_X3_search_L20 (fun x1 x2 x3 x4 x5 x6 x7 x8 x9 x10 x11 x12 => if x10 = 0 then some (x1, x2, x3, x4, x5, x6, x7, x8, x9, x10, x11, 0) else some (x1, x2, x3, x4, x5, x6, x7, x8, x9, x10, x11, x12)) (nI (R 0 0)) (nI (R 0 1)) kind wide bank mud at_ pulls (nI L) (nI f) n s_1 s_2 s_3 s_4 s_5 s_6 s_7 s_8 s_9 s_10 s_11 s_12 s_13) (P := fun M s_1 s_2 s_3 s_4 s_5 s_6 s_7 s_8 s_9 s_10 s_11 s_12 s_13 => s_1 = nI M ∧ tbR (R 0 0) (fs R L f M).1 (fs R L f M).2.2.2 s_10 ∧ s_11 = nI (fs R L f M).1 ∧ s_12 = nI (fs R L f M).2.1 ∧ s_13 = nI (fs R L f M).2.2.1) (a := 0) (N := 2 ^ R 0 1) (fuel := 2000) (i_1 := 0) (i_2 := w) (i_3 := co) (i_4 := de) (i_5 := sp) (i_6 := ha) (i_7 := be) (i_8 := al) (i_9 := si) (i_10 := t) (i_11 := 0) (i_12 := 0) (i_13 := nI L) ?_ (Nat.zero_le _) ?_ (by omega) ⟨rfl, fun j r h => absurd h (by simp [fs]), rfl, rfl, rfl⟩
  · rintro m y1 y2 y3 y4 y5 y6 y7 y8 y9 y10 y11 y12 y13 ⟨z1, z2, z3, z4, z5⟩ e
    (try dsimp only at z1 z2 z3 z4 z5 e)
    subst z1; subst z3; subst z4; subst z5
    rw [e, f_X3_search_L20, s_l' _ (by omega), if_pos (nI_le (by omega) (by omega))]
    have hle := (fs_le R L f (2 ^ R 0 1)).1
    unfold fsA
    by_cases h0 : (fs R L f (2 ^ R 0 1)).1 = 0
    · rw [if_pos ((nI_z (by omega)).mpr h0), if_pos h0]
      exact ⟨_, _, _, _, _, _, _, _, _, rfl, z2⟩
    · rw [if_neg (fun h => h0 ((nI_z (by omega)).mp h)), if_neg h0]
      exact ⟨_, _, _, _, _, _, _, _, _, rfl, z2⟩
  · rintro m M y1 y2 y3 y4 y5 y6 y7 y8 y9 y10 y11 y12 y13 - hM ⟨z1, z2, z3, z4, z5⟩
    (try dsimp only at z1 z2 z3 z4 z5 ⊢)
    subst z1; subst z3; subst z4; subst z5
    have hle := (fs_le R L f M).1
    have hlm := ld_le M L
    have hll := ld_le L M
    rw [f_X3_search_L20, s_l' _ (by omega), if_neg (nI_ge (by omega) (by omega)), andn_nI, andn_nI, nI_1]
    by_cases hs : ld M L = 0
    · rw [hs, if_pos (show nI 0 = 0 from rfl)]
      obtain ⟨c1, c2, c3, c4, c5, c6, c7, c8, e, q1, hco, hde, hrest⟩ := s_run hR (L := ld L M) (by omega) hf T.kind T.wide T.bank T.at_ T.pulls y2 y3 y4 y5 y6 y7 y8 y9
      rw [e, bind_some']
      (try dsimp only)
      rw [s_isAsMud hn hm hde, bind_some']
      by_cases hx : exB (juB R (dp R (wN R (ld L M)) f)) (R 0 0) = true
      · rw [if_pos hx, if_pos rfl]
        refine ⟨_, _, _, _, _, _, _, _, _, _, _, _, _, rfl, ?_⟩
        (try dsimp only)
        rw [fs_o2 hx]
        exact ⟨rfl, z2, rfl, rfl, rfl⟩
      · obtain ⟨t', et, ht'⟩ := s_take3 hn (show (fs R L f M).1 < 128 by omega) hde z2 (nI M) (nI (fs R L f M).2.1) (nI (fs R L f M).2.2.1)
        rw [if_neg hx, if_neg one_ne, et, bind_some', nI_or, nI_and]
        refine ⟨_, _, _, _, _, _, _, _, _, _, _, _, _, rfl, ?_⟩
        (try dsimp only)
        rw [fs_in hs hx]
        exact ⟨rfl, ht', rfl, rfl, rfl⟩
    · rw [if_neg (by rw [nI_z (by omega)]; exact hs)]
      refine ⟨_, _, _, _, _, _, _, _, _, _, _, _, _, rfl, ?_⟩
      (try dsimp only)
      rw [fs_o1 hs]
      exact ⟨rfl, z2, rfl, rfl, rfl⟩
theorem m_letsOut {R : Nat → Nat → Nat} (hR : rvOK R) {L U f sd : Nat} {V : Nat → Nat} (hL : L < 2 ^ R 0 1) (hf : f < 2 ^ 16) {kind wide bank at_ pulls : Nat → Int32} (T : tR R kind wide bank at_ pulls) {v mud : Nat → Int32} (hv : vR (R 0 1) v L U f sd V) (hm : ∀ r, r < R 0 0 → mud r = mI (R 10 r)) (wi wa de sp : Nat → Int32) (be c0 s0 a0 : Int32) (t : Nat → Int32) :
    ∃ wi' wa' de' sp' be' t', f_X12_letsOut (nI (R 0 0)) (nI (R 0 1)) kind wide bank mud at_ pulls v wi wa de sp be c0 s0 a0 t = some (wi', wa', de', sp', be', nI (fs R L f (2 ^ R 0 1)).1, nI (fs R L f (2 ^ R 0 1)).2.1, nI (fsA R L f), t') ∧ tbR (R 0 0) (fs R L f (2 ^ R 0 1)).1 (fs R L f (2 ^ R 0 1)).2.2.2 t' := by
  have hn := hR.1.2.1
  have hk := hR.1.2.2.1
  have h128 : 2 ^ R 0 1 ≤ 2 ^ 7 := Nat.pow_le_pow_right (by decide) hk
  have hL31 := pow_k hk hL
  have hend := fs_end R L f (2 ^ R 0 1 - (L + 1))
  rw [show L + 1 + (2 ^ R 0 1 - (L + 1)) = 2 ^ R 0 1 by omega] at hend
  unfold fsA
  rw [hend]
  unfold f_X12_letsOut
  rw [vR_laced hk hv hL, bind_some']
  refine loopK10 (A_1 := Int32) (A_2 := (Nat → Int32)) (A_3 := (Nat → Int32)) (A_4 := (Nat → Int32)) (A_5 := (Nat → Int32)) (A_6 := Int32) (A_7 := Int32) (A_8 := Int32) (A_9 := Int32) (A_10 := (Nat → Int32)) (F := fun n s_1 s_2 s_3 s_4 s_5 s_6 s_7 s_8 s_9 s_10 => f_X12_letsOut_L22 (fun x1 x2 x3 x4 x5 x6 x7 x8 x9 => if x6 = 0 then some (x1, x2, x3, x4, x5, x6, x7, 0, x9) else some (x1, x2, x3, x4, x5, x6, x7, x8, x9)) (nI L) (nI (R 0 0)) (nI (R 0 1)) kind wide bank mud at_ pulls v n s_1 s_2 s_3 s_4 s_5 s_6 s_7 s_8 s_9 s_10) (P := fun M s_1 s_2 s_3 s_4 s_5 s_6 s_7 s_8 s_9 s_10 => s_1 = nI M ∧ tbR (R 0 0) (fs R L f M).1 (fs R L f M).2.2.2 s_10 ∧ s_7 = nI (fs R L f M).1 ∧ s_8 = nI (fs R L f M).2.1 ∧ s_9 = nI (fs R L f M).2.2.1) (a := 0) (N := L + 1) (fuel := 2000) (i_1 := 0) (i_2 := wi) (i_3 := wa) (i_4 := de) (i_5 := sp) (i_6 := be) (i_7 := 0) (i_8 := 0) (i_9 := nI L) (i_10 := t) ?_ (Nat.zero_le _) ?_ (by omega) ⟨rfl, fun j r h => absurd h (by simp [fs]), rfl, rfl, rfl⟩
  · rintro m y1 y2 y3 y4 y5 y6 y7 y8 y9 y10 ⟨z1, z2, z3, z4, z5⟩ e
    (try dsimp only at z1 z2 z3 z4 z5 e)
    subst z1; subst z3; subst z4; subst z5
    rw [e, f_X12_letsOut_L22, if_pos (nI_lt (by omega) (by omega))]
    have hle := (fs_le R L f (L + 1)).1
    by_cases h0 : (fs R L f (L + 1)).1 = 0
    · rw [if_pos ((nI_z (by omega)).mpr h0), if_pos h0]
      exact ⟨_, _, _, _, _, _, rfl, z2⟩
    · rw [if_neg (fun h => h0 ((nI_z (by omega)).mp h)), if_neg h0]
      exact ⟨_, _, _, _, _, _, rfl, z2⟩
  · rintro m M y1 y2 y3 y4 y5 y6 y7 y8 y9 y10 - hM ⟨z1, z2, z3, z4, z5⟩
    (try dsimp only at z1 z2 z3 z4 z5 ⊢)
    subst z1; subst z3; subst z4; subst z5
    have hle := (fs_le R L f M).1
    have hlm := ld_le M L
    have hll := ld_le L M
    rw [f_X12_letsOut_L22, if_neg (nI_nlt (by omega) (by omega)), andn_nI, andn_nI, nI_1]
    by_cases hs : ld M L = 0
    · obtain ⟨c1, c2, c3, c4, c5, e, hwi, hwa, hde, hrest⟩ := m_runs hR (L := ld L M) (by omega) hf T.kind T.wide T.bank T.at_ T.pulls y2 y3 y4 y5 y6
      rw [hs, if_pos (show nI 0 = 0 from rfl), show inb 14 16 = true by decide, gd_true, show v (14 : Int32).toNatClampNeg = nI f from hv.2.2.1, e, bind_some']
      (try dsimp only)
      rw [m_isMud hn hm hde, bind_some']
      by_cases hx : exB (juB R (dp R (wN R (ld L M)) f)) (R 0 0) = true
      · rw [if_pos hx, if_pos rfl]
        refine ⟨_, _, _, _, _, _, _, _, _, _, rfl, ?_⟩
        (try dsimp only)
        rw [fs_o2 hx]
        exact ⟨rfl, z2, rfl, rfl, rfl⟩
      · obtain ⟨t', et, ht'⟩ := m_take3 hn (show (fs R L f M).1 < 128 by omega) hde z2
        rw [if_neg hx, if_neg one_ne, et]
        simp only [nm_eq, nI_1, nI_or, nI_and]
        refine ⟨_, _, _, _, _, _, _, _, _, _, rfl, ?_⟩
        (try dsimp only)
        rw [fs_in hs hx]
        exact ⟨rfl, ht', rfl, rfl, rfl⟩
    · rw [if_neg (by rw [nI_z (by omega)]; exact hs)]
      refine ⟨_, _, _, _, _, _, _, _, _, _, rfl, ?_⟩
      (try dsimp only)
      rw [fs_o1 hs]
      exact ⟨rfl, z2, rfl, rfl, rfl⟩
theorem j_fits {R : Nat → Nat → Nat} (hR : rvOK R) {L U f sd : Nat} {V : Nat → Nat} (hL : L < 2 ^ R 0 1) (hf : f < 2 ^ 16) {kind wide bank at_ pulls kind2 wide2 bank2 at2 pulls2 v : Nat → Int32} (T : tR R kind wide bank at_ pulls) (T2 : tR R kind2 wide2 bank2 at2 pulls2) (hv : vR (R 0 1) v L U f sd V) {mud mud2 : Nat → Int32} (hm : ∀ r, r < R 0 0 → mud r = mI (R 10 r)) (hm2 : ∀ r, r < R 0 0 → mud2 r = mI (R 10 r)) (w co de sp ha : Nat → Int32) (be al si : Int32) (t : Nat → Int32) (c0 s0 a0 tr : Int32) (th tr2 wh : Int32) (wi wa de2 sp2 : Nat → Int32) (be2 c2 s2 a2 : Int32) (t2 : Nat → Int32) :
    ∃ o o2, f_X10_fits (nI L) (nI f) w co de sp ha be al si t c0 s0 a0 (nI (R 0 0)) (nI (R 0 1)) kind wide bank mud at_ pulls tr = some o ∧ f_X12_fits th tr2 wh (nI (R 0 0)) (nI (R 0 1)) kind2 wide2 bank2 mud2 at2 pulls2 v wi wa de2 sp2 be2 c2 s2 a2 t2 = some o2 ∧ o2.1 = o.1 ∧ o2.2.1 = 0 ∧ o2.2.2.1 = o.2.2.2.2.2.2.2.2.2.2.2.2.2 ∧ o2.2.2.2.1 = -1 ∧ o.2.2.2.2.2.2.2.2.2.2.2.2.2 = 0 := by
  obtain ⟨k1, k2, k3, k4, k5, k6, k7, k8, k9, e, -⟩ := s_search3 hR hL hf T hm w co de sp ha be al si t c0 s0 a0
  obtain ⟨m1, m2, m3, m4, m5, m6, em, -⟩ := m_letsOut hR hL hf T2 hv hm2 wi wa de2 sp2 be2 c2 s2 a2 t2
  unfold f_X10_fits f_X12_fits
  rw [s_noRiver hR, bind_some', if_pos rfl, e, bind_some', em, bind_some']
  exact ⟨_, _, rfl, rfl, rfl, rfl, rfl, rfl, rfl⟩
theorem j_could {R : Nat → Nat → Nat} (hR : rvOK R) {L U f sd : Nat} {V : Nat → Nat} (hL : L < 2 ^ R 0 1) (hf : f < 2 ^ 16) {kind wide bank at_ pulls kind2 wide2 bank2 at2 pulls2 v : Nat → Int32} (T : tR R kind wide bank at_ pulls) (T2 : tR R kind2 wide2 bank2 at2 pulls2) (hv : vR (R 0 1) v L U f sd V) {mud mud2 : Nat → Int32} (hm : ∀ r, r < R 0 0 → mud r = mI (R 10 r)) (hm2 : ∀ r, r < R 0 0 → mud2 r = mI (R 10 r)) (w co de sp ha : Nat → Int32) (be al si : Int32) (t : Nat → Int32) (c0 s0 a0 tr : Int32) (th tr2 wh : Int32) (wi wa de2 sp2 : Nat → Int32) (be2 c2 s2 a2 : Int32) (t2 : Nat → Int32) :
    ∃ o o2, f_X10_could (nI L) (nI f) w co de sp ha be al si t c0 s0 a0 (nI (R 0 0)) (nI (R 0 1)) kind wide bank mud at_ pulls tr = some o ∧ f_X12_could th tr2 wh (nI (R 0 0)) (nI (R 0 1)) kind2 wide2 bank2 mud2 at2 pulls2 v wi wa de2 sp2 be2 c2 s2 a2 t2 = some o2 ∧ o2.1 = o.1 ∧ o2.2.1 = 0 ∧ o2.2.2.1 = o.2.2.2.2.2.2.2.2.2.2.2.2.2 ∧ o2.2.2.2.1 = -1 ∧ o.2.2.2.2.2.2.2.2.2.2.2.2.2 = 0 := by
  obtain ⟨k1, k2, k3, k4, k5, k6, k7, k8, k9, e, -⟩ := s_search3 hR hL hf T hm w co de sp ha be al si t c0 s0 a0
  obtain ⟨m1, m2, m3, m4, m5, m6, em, -⟩ := m_letsOut hR hL hf T2 hv hm2 wi wa de2 sp2 be2 c2 s2 a2 t2
  unfold f_X10_could f_X12_could
  rw [s_noRiver hR, bind_some', if_pos rfl, e, bind_some', em, bind_some']
  exact ⟨_, _, rfl, rfl, rfl, rfl, rfl, rfl, rfl⟩
theorem j_surely {R : Nat → Nat → Nat} (hR : rvOK R) {L U f sd : Nat} {V : Nat → Nat} (hL : L < 2 ^ R 0 1) (hf : f < 2 ^ 16) {kind wide bank at_ pulls kind2 wide2 bank2 at2 pulls2 v : Nat → Int32} (T : tR R kind wide bank at_ pulls) (T2 : tR R kind2 wide2 bank2 at2 pulls2) (hv : vR (R 0 1) v L U f sd V) {mud mud2 : Nat → Int32} (hm : ∀ r, r < R 0 0 → mud r = mI (R 10 r)) (hm2 : ∀ r, r < R 0 0 → mud2 r = mI (R 10 r)) (w co de sp ha : Nat → Int32) (be al si : Int32) (t : Nat → Int32) (c0 s0 a0 tr : Int32) (th tr2 wh : Int32) (wi wa de2 sp2 : Nat → Int32) (be2 c2 s2 a2 : Int32) (t2 : Nat → Int32) :
    ∃ o o2, f_X10_surely (nI L) (nI f) w co de sp ha be al si t c0 s0 a0 (nI (R 0 0)) (nI (R 0 1)) kind wide bank mud at_ pulls tr = some o ∧ f_X12_surely th tr2 wh (nI (R 0 0)) (nI (R 0 1)) kind2 wide2 bank2 mud2 at2 pulls2 v wi wa de2 sp2 be2 c2 s2 a2 t2 = some o2 ∧ o2.1 = o.1 ∧ o2.2.1 = 0 ∧ o2.2.2.1 = o.2.2.2.2.2.2.2.2.2.2.2.2.2 ∧ o2.2.2.2.1 = -1 ∧ o.2.2.2.2.2.2.2.2.2.2.2.2.2 = 0 := by
  obtain ⟨k1, k2, k3, k4, k5, k6, k7, k8, k9, e, -⟩ := s_search3 hR hL hf T hm w co de sp ha be al si t c0 s0 a0
  obtain ⟨m1, m2, m3, m4, m5, m6, em, -⟩ := m_letsOut hR hL hf T2 hv hm2 wi wa de2 sp2 be2 c2 s2 a2 t2
  unfold f_X10_surely f_X12_surely
  rw [s_noRiver hR, bind_some', if_pos rfl, e, bind_some', em, bind_some']
  exact ⟨_, _, rfl, rfl, rfl, rfl, rfl, rfl, rfl⟩
